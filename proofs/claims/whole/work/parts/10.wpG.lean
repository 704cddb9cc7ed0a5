abbrev Lp_X12_isCompared_7 (g : GE) (d : Nat) (o : Nat) (u1 : Int32) (M : Mem) (r : Option Value) (M' : Mem) : Prop := Fr g d mu_X12_isCompared 7 [(0, rf g o), (1, .int u1)] [] M r M'
theorem cp_X12_isCompared {g : GE} {Z : Zs} {I : Nat → Nat → Int32} {L : Nat → Nat → Int64} {r : Option Value} {M' : Mem} {o : Nat} (k_o : KM Z o 12) (h : (∀ y1 : Int32, y1 = ((I o 19) - 1) → Lp_X12_isCompared_7 g 2 o y1 (Z, I, L) r M')) : Cl g 2 mu_X12_isCompared [rf g o] (Z, I, L) r M' := by
  refine cl_of (lv := [(0, rf g o)]) (by decide) (Nat.le_of_ble_eq_true rfl) rfl ?_
  refine fr_aload_n (i := 0) (q := 0) rfl dX12_isCompared_0 rfl ?_
  refine fr_getI dX12_isCompared_1 rfl fl_X12_163 k_o ?_
  refine fr_iconst (v := 1) (by decide) dX12_isCompared_4 rfl ?_
  refine fr_isub dX12_isCompared_5 rfl ?_
  refine fr_topi (fun y1 hy1 => ?_)
  have h := h y1 hy1
  refine fr_istore_n (i := 1) (lv' := [(1, .int y1), (0, rf g o)]) dX12_isCompared_6 rfl (by decide) rfl ?_
  exact fr_sub [1, 0] rfl h
theorem wp_X12_isCompared_7 {g : GE} {Z : Zs} {I : Nat → Nat → Int32} {L : Nat → Nat → Int64} {r : Option Value} {M' : Mem} {o : Nat} {u1 : Int32} {o_pile : Nat} (k_o : KM Z o 12) (r_o_pile : Z.2.1 o 18 = some o_pile) (k_o_pile : KM Z o_pile 13) (h : ((u1 < 0 → ((u1 < 0 → (r = some (.int 0) ∧ M' = (Z, I, L))) ∧ (¬ u1 < 0 → (vp_in u1 (Z.2.2.1 o_pile) ∧ (∃ (v2 : Int32), Cl g 1 mu_X12_rank [.int (I o_pile u1.toNatClampNeg)] (Z, I, L) (some (.int v2)) (Z, I, L) ∧ ((¬ v2 = 4 → (r = some (.int 0) ∧ M' = (Z, I, L))) ∧ (v2 = 4 → (r = some (.int 1) ∧ M' = (Z, I, L))))))))) ∧ (¬ u1 < 0 → (vp_in u1 (Z.2.2.1 o_pile) ∧ (∃ (v5 : Int32), Cl g 1 mu_X12_rank [.int (I o_pile u1.toNatClampNeg)] (Z, I, L) (some (.int v5)) (Z, I, L) ∧ ((v5 ≤ 4 → ((u1 < 0 → (r = some (.int 0) ∧ M' = (Z, I, L))) ∧ (¬ u1 < 0 → (vp_in u1 (Z.2.2.1 o_pile) ∧ (∃ (v8 : Int32), Cl g 1 mu_X12_rank [.int (I o_pile u1.toNatClampNeg)] (Z, I, L) (some (.int v8)) (Z, I, L) ∧ ((¬ v8 = 4 → (r = some (.int 0) ∧ M' = (Z, I, L))) ∧ (v8 = 4 → (r = some (.int 1) ∧ M' = (Z, I, L))))))))) ∧ (¬ v5 ≤ 4 → (∀ y10 : Int32, y10 = (u1 + (-1)) → Lp_X12_isCompared_7 g 2 o y10 (Z, I, L) r M')))))))) : Lp_X12_isCompared_7 g 2 o u1 (Z, I, L) r M' := by
  refine fr_iload_n (i := 1) (q := 1) rfl dX12_isCompared_7 rfl ?_
  refine fr_if_lt (tgt := 30) dX12_isCompared_8 (by decide) rfl (fun hc => ?_) (fun hc => ?_)
  · have h := h.1 hc
    refine fr_iload_n (i := 1) (q := 1) rfl dX12_isCompared_30 rfl ?_
    refine fr_if_lt (tgt := 51) dX12_isCompared_31 (by decide) rfl (fun hc => ?_) (fun hc => ?_)
    · have h := h.1 hc
      refine fr_iconst (v := 0) (by decide) dX12_isCompared_51 rfl ?_
      exact fr_zret (by decide) rfl dX12_isCompared_52 h.1 h.2
    · have h := h.2 hc
      refine fr_aload_n (i := 0) (q := 0) rfl dX12_isCompared_34 rfl ?_
      refine fr_getR dX12_isCompared_35 rfl fl_X12_29 k_o r_o_pile ?_
      refine fr_iload_n (i := 1) (q := 1) rfl dX12_isCompared_38 rfl ?_
      obtain ⟨hz1, h⟩ := h
      refine fr_iald dX12_isCompared_39 rfl k_o_pile hz1 ?_
      obtain ⟨v2, hc3, h⟩ := h
      refine fr_callS2 (ν := mu_X12_rank) (st2 := [.int v2]) (As := [.int (I o_pile u1.toNatClampNeg)]) (st := []) (v := (some (.int v2))) (M1 := (Z, I, L)) dX12_isCompared_40 rfl ml_X12_166 mo_X12_rank ms_X12_rank (Nat.le_of_ble_eq_true rfl) rfl rfl (Nat.le_of_ble_eq_true rfl) hc3 rfl ?_
      refine fr_iconst (v := 4) (by decide) dX12_isCompared_43 rfl ?_
      refine fr_icmp_ne (tgt := 51) dX12_isCompared_44 (by decide) rfl (fun hc => ?_) (fun hc => ?_)
      · have h := h.1 hc
        refine fr_iconst (v := 0) (by decide) dX12_isCompared_51 rfl ?_
        exact fr_zret (by decide) rfl dX12_isCompared_52 h.1 h.2
      · have h := h.2 hc
        refine fr_iconst (v := 1) (by decide) dX12_isCompared_47 rfl ?_
        refine fr_goto (n := 52) dX12_isCompared_48 (by decide) ?_
        exact fr_zret (by decide) rfl dX12_isCompared_52 h.1 h.2
  · have h := h.2 hc
    refine fr_aload_n (i := 0) (q := 0) rfl dX12_isCompared_11 rfl ?_
    refine fr_getR dX12_isCompared_12 rfl fl_X12_29 k_o r_o_pile ?_
    refine fr_iload_n (i := 1) (q := 1) rfl dX12_isCompared_15 rfl ?_
    obtain ⟨hz4, h⟩ := h
    refine fr_iald dX12_isCompared_16 rfl k_o_pile hz4 ?_
    obtain ⟨v5, hc6, h⟩ := h
    refine fr_callS2 (ν := mu_X12_rank) (st2 := [.int v5]) (As := [.int (I o_pile u1.toNatClampNeg)]) (st := []) (v := (some (.int v5))) (M1 := (Z, I, L)) dX12_isCompared_17 rfl ml_X12_166 mo_X12_rank ms_X12_rank (Nat.le_of_ble_eq_true rfl) rfl rfl (Nat.le_of_ble_eq_true rfl) hc6 rfl ?_
    refine fr_iconst (v := 4) (by decide) dX12_isCompared_20 rfl ?_
    refine fr_icmp_le (tgt := 30) dX12_isCompared_21 (by decide) rfl (fun hc => ?_) (fun hc => ?_)
    · have h := h.1 hc
      refine fr_iload_n (i := 1) (q := 1) rfl dX12_isCompared_30 rfl ?_
      refine fr_if_lt (tgt := 51) dX12_isCompared_31 (by decide) rfl (fun hc => ?_) (fun hc => ?_)
      · have h := h.1 hc
        refine fr_iconst (v := 0) (by decide) dX12_isCompared_51 rfl ?_
        exact fr_zret (by decide) rfl dX12_isCompared_52 h.1 h.2
      · have h := h.2 hc
        refine fr_aload_n (i := 0) (q := 0) rfl dX12_isCompared_34 rfl ?_
        refine fr_getR dX12_isCompared_35 rfl fl_X12_29 k_o r_o_pile ?_
        refine fr_iload_n (i := 1) (q := 1) rfl dX12_isCompared_38 rfl ?_
        obtain ⟨hz7, h⟩ := h
        refine fr_iald dX12_isCompared_39 rfl k_o_pile hz7 ?_
        obtain ⟨v8, hc9, h⟩ := h
        refine fr_callS2 (ν := mu_X12_rank) (st2 := [.int v8]) (As := [.int (I o_pile u1.toNatClampNeg)]) (st := []) (v := (some (.int v8))) (M1 := (Z, I, L)) dX12_isCompared_40 rfl ml_X12_166 mo_X12_rank ms_X12_rank (Nat.le_of_ble_eq_true rfl) rfl rfl (Nat.le_of_ble_eq_true rfl) hc9 rfl ?_
        refine fr_iconst (v := 4) (by decide) dX12_isCompared_43 rfl ?_
        refine fr_icmp_ne (tgt := 51) dX12_isCompared_44 (by decide) rfl (fun hc => ?_) (fun hc => ?_)
        · have h := h.1 hc
          refine fr_iconst (v := 0) (by decide) dX12_isCompared_51 rfl ?_
          exact fr_zret (by decide) rfl dX12_isCompared_52 h.1 h.2
        · have h := h.2 hc
          refine fr_iconst (v := 1) (by decide) dX12_isCompared_47 rfl ?_
          refine fr_goto (n := 52) dX12_isCompared_48 (by decide) ?_
          exact fr_zret (by decide) rfl dX12_isCompared_52 h.1 h.2
    · have h := h.2 hc
      obtain ⟨y10, hy10⟩ : ∃ y : Int32, y = u1 + (-1) := ⟨_, rfl⟩
      have h := h y10 hy10
      refine fr_iinc (q := 1) (v := y10) (lv' := [(1, .int y10), (0, rf g o)]) rfl (by rw [hy10]; rfl) dX12_isCompared_24 rfl (by decide) rfl ?_
      refine fr_goto (n := 7) dX12_isCompared_27 (by decide) ?_
      exact fr_sub [1, 0] rfl h
theorem cp_X12_isAskAhead {g : GE} {Z : Zs} {I : Nat → Nat → Int32} {L : Nat → Nat → Int64} {r : Option Value} {M' : Mem} {o : Nat} {x1 : Int32} {o_pile : Nat} (k_o : KM Z o 12) (r_o_pile : Z.2.1 o 18 = some o_pile) (k_o_pile : KM Z o_pile 13) (h : (∃ (v1 : Int32), Cl g 2 mu_X12_kindOpen [rf g o, .int x1] (Z, I, L) (some (.int v1)) (Z, I, L) ∧ ((¬ v1 = 41 → (r = some (.int 0) ∧ M' = (Z, I, L))) ∧ (v1 = 41 → (((I o 19) = 0 → (r = some (.int 1) ∧ M' = (Z, I, L))) ∧ (¬ (I o 19) = 0 → (vp_in ((I o 19) - 1) (Z.2.2.1 o_pile) ∧ (((I o_pile ((I o 19) - 1).toNatClampNeg) = 41 → (r = some (.int 1) ∧ M' = (Z, I, L))) ∧ (¬ (I o_pile ((I o 19) - 1).toNatClampNeg) = 41 → (vp_in ((I o 19) - 1) (Z.2.2.1 o_pile) ∧ (∃ (v5 : Int32), Cl g 1 mu_X12_rank [.int (I o_pile ((I o 19) - 1).toNatClampNeg)] (Z, I, L) (some (.int v5)) (Z, I, L) ∧ (∃ (v7 : Int32), Cl g 1 mu_X12_isIn [.int v5, .int 1, .int 3] (Z, I, L) (some (.int v7)) (Z, I, L) ∧ ((v7 = 0 → (r = some (.int 0) ∧ M' = (Z, I, L))) ∧ (¬ v7 = 0 → (r = some (.int 1) ∧ M' = (Z, I, L)))))))))))))))) : Cl g 3 mu_X12_isAskAhead [rf g o, .int x1] (Z, I, L) r M' := by
  refine cl_of (lv := [(0, rf g o), (1, .int x1)]) (by decide) (Nat.le_of_ble_eq_true rfl) rfl ?_
  refine fr_aload_n (i := 0) (q := 0) rfl dX12_isAskAhead_0 rfl ?_
  refine fr_iload_n (i := 1) (q := 1) rfl dX12_isAskAhead_1 rfl ?_
  obtain ⟨v1, hc2, h⟩ := h
  refine fr_callV2 (ν := mu_X12_kindOpen) (st2 := [.int v1]) (As := [.int x1]) (st := []) (v := (some (.int v1))) (M1 := (Z, I, L)) dX12_isAskAhead_2 rfl ml_X12_187 mo_X12_kindOpen mi_X12_kindOpen (ci := 12) rfl rfl k_o (Nat.le_of_ble_eq_true rfl) rfl rfl (Nat.le_of_ble_eq_true rfl) hc2 rfl ?_
  refine fr_bipush (v := 41) (by decide) dX12_isAskAhead_5 rfl ?_
  refine fr_icmp_ne (tgt := 59) dX12_isAskAhead_7 (by decide) rfl (fun hc => ?_) (fun hc => ?_)
  · have h := h.1 hc
    refine fr_iconst (v := 0) (by decide) dX12_isAskAhead_59 rfl ?_
    exact fr_zret (by decide) rfl dX12_isAskAhead_60 h.1 h.2
  · have h := h.2 hc
    refine fr_aload_n (i := 0) (q := 0) rfl dX12_isAskAhead_10 rfl ?_
    refine fr_getI dX12_isAskAhead_11 rfl fl_X12_163 k_o ?_
    refine fr_if_eq (tgt := 55) dX12_isAskAhead_14 (by decide) rfl (fun hc => ?_) (fun hc => ?_)
    · have h := h.1 hc
      refine fr_iconst (v := 1) (by decide) dX12_isAskAhead_55 rfl ?_
      refine fr_goto (n := 60) dX12_isAskAhead_56 (by decide) ?_
      exact fr_zret (by decide) rfl dX12_isAskAhead_60 h.1 h.2
    · have h := h.2 hc
      refine fr_aload_n (i := 0) (q := 0) rfl dX12_isAskAhead_17 rfl ?_
      refine fr_getR dX12_isAskAhead_18 rfl fl_X12_29 k_o r_o_pile ?_
      refine fr_aload_n (i := 0) (q := 0) rfl dX12_isAskAhead_21 rfl ?_
      refine fr_getI dX12_isAskAhead_22 rfl fl_X12_163 k_o ?_
      refine fr_iconst (v := 1) (by decide) dX12_isAskAhead_25 rfl ?_
      refine fr_isub dX12_isAskAhead_26 rfl ?_
      obtain ⟨hz3, h⟩ := h
      refine fr_iald dX12_isAskAhead_27 rfl k_o_pile hz3 ?_
      refine fr_bipush (v := 41) (by decide) dX12_isAskAhead_28 rfl ?_
      refine fr_icmp_eq (tgt := 55) dX12_isAskAhead_30 (by decide) rfl (fun hc => ?_) (fun hc => ?_)
      · have h := h.1 hc
        refine fr_iconst (v := 1) (by decide) dX12_isAskAhead_55 rfl ?_
        refine fr_goto (n := 60) dX12_isAskAhead_56 (by decide) ?_
        exact fr_zret (by decide) rfl dX12_isAskAhead_60 h.1 h.2
      · have h := h.2 hc
        refine fr_aload_n (i := 0) (q := 0) rfl dX12_isAskAhead_33 rfl ?_
        refine fr_getR dX12_isAskAhead_34 rfl fl_X12_29 k_o r_o_pile ?_
        refine fr_aload_n (i := 0) (q := 0) rfl dX12_isAskAhead_37 rfl ?_
        refine fr_getI dX12_isAskAhead_38 rfl fl_X12_163 k_o ?_
        refine fr_iconst (v := 1) (by decide) dX12_isAskAhead_41 rfl ?_
        refine fr_isub dX12_isAskAhead_42 rfl ?_
        obtain ⟨hz4, h⟩ := h
        refine fr_iald dX12_isAskAhead_43 rfl k_o_pile hz4 ?_
        obtain ⟨v5, hc6, h⟩ := h
        refine fr_callS2 (ν := mu_X12_rank) (st2 := [.int v5]) (As := [.int (I o_pile ((I o 19) - 1).toNatClampNeg)]) (st := []) (v := (some (.int v5))) (M1 := (Z, I, L)) dX12_isAskAhead_44 rfl ml_X12_166 mo_X12_rank ms_X12_rank (Nat.le_of_ble_eq_true rfl) rfl rfl (Nat.le_of_ble_eq_true rfl) hc6 rfl ?_
        refine fr_iconst (v := 1) (by decide) dX12_isAskAhead_47 rfl ?_
        refine fr_iconst (v := 3) (by decide) dX12_isAskAhead_48 rfl ?_
        obtain ⟨v7, hc8, h⟩ := h
        refine fr_callS2 (ν := mu_X12_isIn) (st2 := [.int v7]) (As := [.int v5, .int 1, .int 3]) (st := []) (v := (some (.int v7))) (M1 := (Z, I, L)) dX12_isAskAhead_49 rfl ml_X12_95 mo_X12_isIn ms_X12_isIn (Nat.le_of_ble_eq_true rfl) rfl rfl (Nat.le_of_ble_eq_true rfl) hc8 rfl ?_
        refine fr_if_eq (tgt := 59) dX12_isAskAhead_52 (by decide) rfl (fun hc => ?_) (fun hc => ?_)
        · have h := h.1 hc
          refine fr_iconst (v := 0) (by decide) dX12_isAskAhead_59 rfl ?_
          exact fr_zret (by decide) rfl dX12_isAskAhead_60 h.1 h.2
        · have h := h.2 hc
          refine fr_iconst (v := 1) (by decide) dX12_isAskAhead_55 rfl ?_
          refine fr_goto (n := 60) dX12_isAskAhead_56 (by decide) ?_
          exact fr_zret (by decide) rfl dX12_isAskAhead_60 h.1 h.2
theorem cp_X12_opensBy {g : GE} {Z : Zs} {I : Nat → Nat → Int32} {L : Nat → Nat → Int64} {r : Option Value} {M' : Mem} {o : Nat} {x1 : Int32} (k_o : KM Z o 12) (h : ((¬ (I o 20) = 8 → (∀ I1 : Nat → Nat → Int32, I1 = rw1 I o (upd (I o) 20 ((I o 20) + 1)) → (∃ (I2 : Nat → Nat → Int32) (L3 : Nat → Nat → Int64), Cl g 1 mu_X12_push [rf g o, .int x1] (Z, I1, L) none (Z, I2, L3) ∧ (∃ (I5 : Nat → Nat → Int32) (L6 : Nat → Nat → Int64), Cl g 3 mu_X12_nextToken [rf g o] (Z, I2, L3) none (Z, I5, L6) ∧ (r = some (.int 0) ∧ M' = (Z, I5, L6)))))) ∧ ((I o 20) = 8 → (r = some (.int 3) ∧ M' = (Z, I, L))))) : Cl g 4 mu_X12_opensBy [rf g o, .int x1] (Z, I, L) r M' := by
  refine cl_of (lv := [(0, rf g o), (1, .int x1)]) (by decide) (Nat.le_of_ble_eq_true rfl) rfl ?_
  refine fr_aload_n (i := 0) (q := 0) rfl dX12_opensBy_0 rfl ?_
  refine fr_getI dX12_opensBy_1 rfl fl_X12_173 k_o ?_
  refine fr_bipush (v := 8) (by decide) dX12_opensBy_4 rfl ?_
  refine fr_icmp_ne (tgt := 11) dX12_opensBy_6 (by decide) rfl (fun hc => ?_) (fun hc => ?_)
  · have h := h.1 hc
    refine fr_aload_n (i := 0) (q := 0) rfl dX12_opensBy_11 rfl ?_
    refine fr_dup rfl dX12_opensBy_12 rfl ?_
    refine fr_getI dX12_opensBy_13 rfl fl_X12_173 k_o ?_
    refine fr_iconst (v := 1) (by decide) dX12_opensBy_16 rfl ?_
    refine fr_iadd dX12_opensBy_17 rfl ?_
    refine fr_putI dX12_opensBy_18 rfl fp_X12_173 k_o ?_
    refine fr_memI (fun I1 hI1 => ?_)
    have h := h I1 hI1
    refine fr_aload_n (i := 0) (q := 0) rfl dX12_opensBy_21 rfl ?_
    refine fr_iload_n (i := 1) (q := 1) rfl dX12_opensBy_22 rfl ?_
    obtain ⟨I2, L3, hc4, h⟩ := h
    refine fr_callV2 (ν := mu_X12_push) (st2 := []) (As := [.int x1]) (st := []) (v := none) (M1 := (Z, I2, L3)) dX12_opensBy_23 rfl ml_X12_191 mo_X12_push mi_X12_push (ci := 12) rfl rfl k_o (Nat.le_of_ble_eq_true rfl) rfl rfl (Nat.le_of_ble_eq_true rfl) hc4 rfl ?_
    refine fr_aload_n (i := 0) (q := 0) rfl dX12_opensBy_26 rfl ?_
    obtain ⟨I5, L6, hc7, h⟩ := h
    refine fr_callV2 (ν := mu_X12_nextToken) (st2 := []) (As := []) (st := []) (v := none) (M1 := (Z, I5, L6)) dX12_opensBy_27 rfl ml_X12_194 mo_X12_nextToken mi_X12_nextToken (ci := 12) rfl rfl k_o (Nat.le_of_ble_eq_true rfl) rfl rfl (Nat.le_of_ble_eq_true rfl) hc7 rfl ?_
    refine fr_iconst (v := 0) (by decide) dX12_opensBy_30 rfl ?_
    exact fr_iret rfl dX12_opensBy_31 h.1 h.2
  · have h := h.2 hc
    refine fr_iconst (v := 3) (by decide) dX12_opensBy_9 rfl ?_
    exact fr_iret rfl dX12_opensBy_10 h.1 h.2
abbrev Lp_X12_beginOne_39 (g : GE) (d : Nat) (o : Nat) (u1 : Int32) (u2 : Int32) (M : Mem) (r : Option Value) (M' : Mem) : Prop := Fr g d mu_X12_beginOne 39 [(0, rf g o), (1, .int u1), (2, .int u2)] [] M r M'
theorem cp_X12_beginOne {g : GE} {Z : Zs} {I : Nat → Nat → Int32} {L : Nat → Nat → Int64} {r : Option Value} {M' : Mem} {o : Nat} {x1 : Int32} (k_o : KM Z o 12) (h : ((¬ (I o 11) = 1 → (∃ (v1 : Int32), Cl g 3 mu_X12_nameOf [rf g o] (Z, I, L) (some (.int v1)) (Z, I, L) ∧ ((v1 < 0 → Lp_X12_beginOne_39 g 5 o x1 v1 (Z, I, L) r M') ∧ (¬ v1 < 0 → (∃ (v3 : Int32), Cl g 1 mu_X12_isOf [rf g o, .int v1] (Z, I, L) (some (.int v3)) (Z, I, L) ∧ ((¬ v3 = 0 → Lp_X12_beginOne_39 g 5 o x1 v1 (Z, I, L) r M') ∧ (v3 = 0 → (r = some (.int 5) ∧ M' = (Z, I, L))))))))) ∧ ((I o 11) = 1 → (((I o 12) ≤ 9999 → (∃ (v5 : Int32), Cl g 3 mu_X12_nameOf [rf g o] (Z, I, L) (some (.int v5)) (Z, I, L) ∧ ((v5 < 0 → Lp_X12_beginOne_39 g 5 o x1 v5 (Z, I, L) r M') ∧ (¬ v5 < 0 → (∃ (v7 : Int32), Cl g 1 mu_X12_isOf [rf g o, .int v5] (Z, I, L) (some (.int v7)) (Z, I, L) ∧ ((¬ v7 = 0 → Lp_X12_beginOne_39 g 5 o x1 v5 (Z, I, L) r M') ∧ (v7 = 0 → (r = some (.int 5) ∧ M' = (Z, I, L))))))))) ∧ (¬ (I o 12) ≤ 9999 → (r = some (.int 2) ∧ M' = (Z, I, L))))))) : Cl g 5 mu_X12_beginOne [rf g o, .int x1] (Z, I, L) r M' := by
  refine cl_of (lv := [(0, rf g o), (1, .int x1)]) (by decide) (Nat.le_of_ble_eq_true rfl) rfl ?_
  refine fr_aload_n (i := 0) (q := 0) rfl dX12_beginOne_0 rfl ?_
  refine fr_getI dX12_beginOne_1 rfl fl_X12_132 k_o ?_
  refine fr_iconst (v := 1) (by decide) dX12_beginOne_4 rfl ?_
  refine fr_icmp_ne (tgt := 20) dX12_beginOne_5 (by decide) rfl (fun hc => ?_) (fun hc => ?_)
  · have h := h.1 hc
    refine fr_aload_n (i := 0) (q := 0) rfl dX12_beginOne_20 rfl ?_
    obtain ⟨v1, hc2, h⟩ := h
    refine fr_callV2 (ν := mu_X12_nameOf) (st2 := [.int v1]) (As := []) (st := []) (v := (some (.int v1))) (M1 := (Z, I, L)) dX12_beginOne_21 rfl ml_X12_197 mo_X12_nameOf mi_X12_nameOf (ci := 12) rfl rfl k_o (Nat.le_of_ble_eq_true rfl) rfl rfl (Nat.le_of_ble_eq_true rfl) hc2 rfl ?_
    refine fr_istore_n (i := 2) (lv' := [(2, .int v1), (0, rf g o), (1, .int x1)]) dX12_beginOne_24 rfl (by decide) rfl ?_
    refine fr_iload_n (i := 2) (q := 0) rfl dX12_beginOne_25 rfl ?_
    refine fr_if_lt (tgt := 39) dX12_beginOne_26 (by decide) rfl (fun hc => ?_) (fun hc => ?_)
    · have h := h.1 hc
      exact fr_sub [1, 2, 0] rfl h
    · have h := h.2 hc
      refine fr_aload_n (i := 0) (q := 1) rfl dX12_beginOne_29 rfl ?_
      refine fr_iload_n (i := 2) (q := 0) rfl dX12_beginOne_30 rfl ?_
      obtain ⟨v3, hc4, h⟩ := h
      refine fr_callV2 (ν := mu_X12_isOf) (st2 := [.int v3]) (As := [.int v1]) (st := []) (v := (some (.int v3))) (M1 := (Z, I, L)) dX12_beginOne_31 rfl ml_X12_200 mo_X12_isOf mi_X12_isOf (ci := 12) rfl rfl k_o (Nat.le_of_ble_eq_true rfl) rfl rfl (Nat.le_of_ble_eq_true rfl) hc4 rfl ?_
      refine fr_if_ne (tgt := 39) dX12_beginOne_34 (by decide) rfl (fun hc => ?_) (fun hc => ?_)
      · have h := h.1 hc
        exact fr_sub [1, 2, 0] rfl h
      · have h := h.2 hc
        refine fr_iconst (v := 5) (by decide) dX12_beginOne_37 rfl ?_
        exact fr_iret rfl dX12_beginOne_38 h.1 h.2
  · have h := h.2 hc
    refine fr_aload_n (i := 0) (q := 0) rfl dX12_beginOne_8 rfl ?_
    refine fr_getI dX12_beginOne_9 rfl fl_X12_138 k_o ?_
    refine fr_sipush (v := 9999) (by decide) dX12_beginOne_12 rfl ?_
    refine fr_icmp_le (tgt := 20) dX12_beginOne_15 (by decide) rfl (fun hc => ?_) (fun hc => ?_)
    · have h := h.1 hc
      refine fr_aload_n (i := 0) (q := 0) rfl dX12_beginOne_20 rfl ?_
      obtain ⟨v5, hc6, h⟩ := h
      refine fr_callV2 (ν := mu_X12_nameOf) (st2 := [.int v5]) (As := []) (st := []) (v := (some (.int v5))) (M1 := (Z, I, L)) dX12_beginOne_21 rfl ml_X12_197 mo_X12_nameOf mi_X12_nameOf (ci := 12) rfl rfl k_o (Nat.le_of_ble_eq_true rfl) rfl rfl (Nat.le_of_ble_eq_true rfl) hc6 rfl ?_
      refine fr_istore_n (i := 2) (lv' := [(2, .int v5), (0, rf g o), (1, .int x1)]) dX12_beginOne_24 rfl (by decide) rfl ?_
      refine fr_iload_n (i := 2) (q := 0) rfl dX12_beginOne_25 rfl ?_
      refine fr_if_lt (tgt := 39) dX12_beginOne_26 (by decide) rfl (fun hc => ?_) (fun hc => ?_)
      · have h := h.1 hc
        exact fr_sub [1, 2, 0] rfl h
      · have h := h.2 hc
        refine fr_aload_n (i := 0) (q := 1) rfl dX12_beginOne_29 rfl ?_
        refine fr_iload_n (i := 2) (q := 0) rfl dX12_beginOne_30 rfl ?_
        obtain ⟨v7, hc8, h⟩ := h
        refine fr_callV2 (ν := mu_X12_isOf) (st2 := [.int v7]) (As := [.int v5]) (st := []) (v := (some (.int v7))) (M1 := (Z, I, L)) dX12_beginOne_31 rfl ml_X12_200 mo_X12_isOf mi_X12_isOf (ci := 12) rfl rfl k_o (Nat.le_of_ble_eq_true rfl) rfl rfl (Nat.le_of_ble_eq_true rfl) hc8 rfl ?_
        refine fr_if_ne (tgt := 39) dX12_beginOne_34 (by decide) rfl (fun hc => ?_) (fun hc => ?_)
        · have h := h.1 hc
          exact fr_sub [1, 2, 0] rfl h
        · have h := h.2 hc
          refine fr_iconst (v := 5) (by decide) dX12_beginOne_37 rfl ?_
          exact fr_iret rfl dX12_beginOne_38 h.1 h.2
    · have h := h.2 hc
      refine fr_iconst (v := 2) (by decide) dX12_beginOne_18 rfl ?_
      exact fr_iret rfl dX12_beginOne_19 h.1 h.2
abbrev Lp_X12_beginOne_65 (g : GE) (d : Nat) (o : Nat) (u2 : Int32) (s0 : Int32) (t1 : Nat) (M : Mem) (r : Option Value) (M' : Mem) : Prop := Fr g d mu_X12_beginOne 65 [(0, rf g o), (2, .int u2)] [.int s0, rf g t1] M r M'
theorem wp_X12_beginOne_39 {g : GE} {Z : Zs} {I : Nat → Nat → Int32} {L : Nat → Nat → Int64} {r : Option Value} {M' : Mem} {o : Nat} {u1 : Int32} {u2 : Int32} (k_o : KM Z o 12) (h : (((I o 11) = 1 → ((¬ (I o 11) = 1 → Lp_X12_beginOne_65 g 5 o u2 1 o (Z, I, L) r M') ∧ ((I o 11) = 1 → Lp_X12_beginOne_65 g 5 o u2 0 o (Z, I, L) r M'))) ∧ (¬ (I o 11) = 1 → ((u2 < 0 → ((¬ (I o 11) = 40 → ((¬ (I o 11) = 45 → ((¬ (I o 11) = 2 → (∃ (v1 : Int64), Cl g 1 mu_X12_w3 [.int 110, .int 111, .int 116] (Z, I, L) (some (.long v1)) (Z, I, L) ∧ (∃ (v3 : Int32), Cl g 1 mu_X12_isWord [rf g o, .long v1] (Z, I, L) (some (.int v3)) (Z, I, L) ∧ ((v3 = 0 → (r = some (.int 1) ∧ M' = (Z, I, L))) ∧ (¬ v3 = 0 → (∃ (v5 : Int32), Cl g 3 mu_X12_isAskAhead [rf g o, .int u1] (Z, I, L) (some (.int v5)) (Z, I, L) ∧ ((v5 = 0 → (r = some (.int 1) ∧ M' = (Z, I, L))) ∧ (¬ v5 = 0 → (∃ (v7 : Int32) (I8 : Nat → Nat → Int32) (L9 : Nat → Nat → Int64), Cl g 4 mu_X12_opensBy [rf g o, .int 20] (Z, I, L) (some (.int v7)) (Z, I8, L9) ∧ (r = some (.int v7) ∧ M' = (Z, I8, L9))))))))))) ∧ ((I o 11) = 2 → ((¬ (lg_cmp (L o 13) 26982) = 0 → (∃ (v11 : Int64), Cl g 1 mu_X12_w3 [.int 110, .int 111, .int 116] (Z, I, L) (some (.long v11)) (Z, I, L) ∧ (∃ (v13 : Int32), Cl g 1 mu_X12_isWord [rf g o, .long v11] (Z, I, L) (some (.int v13)) (Z, I, L) ∧ ((v13 = 0 → (r = some (.int 1) ∧ M' = (Z, I, L))) ∧ (¬ v13 = 0 → (∃ (v15 : Int32), Cl g 3 mu_X12_isAskAhead [rf g o, .int u1] (Z, I, L) (some (.int v15)) (Z, I, L) ∧ ((v15 = 0 → (r = some (.int 1) ∧ M' = (Z, I, L))) ∧ (¬ v15 = 0 → (∃ (v17 : Int32) (I18 : Nat → Nat → Int32) (L19 : Nat → Nat → Int64), Cl g 4 mu_X12_opensBy [rf g o, .int 20] (Z, I, L) (some (.int v17)) (Z, I18, L19) ∧ (r = some (.int v17) ∧ M' = (Z, I18, L19))))))))))) ∧ ((lg_cmp (L o 13) 26982) = 0 → (∃ (v21 : Int32) (I22 : Nat → Nat → Int32) (L23 : Nat → Nat → Int64), Cl g 4 mu_X12_opensBy [rf g o, .int 41] (Z, I, L) (some (.int v21)) (Z, I22, L23) ∧ (r = some (.int v21) ∧ M' = (Z, I22, L23)))))))) ∧ ((I o 11) = 45 → (∃ (v25 : Int32) (I26 : Nat → Nat → Int32) (L27 : Nat → Nat → Int64), Cl g 4 mu_X12_opensBy [rf g o, .int 2] (Z, I, L) (some (.int v25)) (Z, I26, L27) ∧ (r = some (.int v25) ∧ M' = (Z, I26, L27)))))) ∧ ((I o 11) = 40 → (∃ (v29 : Int32) (I30 : Nat → Nat → Int32) (L31 : Nat → Nat → Int64), Cl g 4 mu_X12_opensBy [rf g o, .int 40] (Z, I, L) (some (.int v29)) (Z, I30, L31) ∧ (r = some (.int v29) ∧ M' = (Z, I30, L31)))))) ∧ (¬ u2 < 0 → ((¬ (I o 11) = 1 → Lp_X12_beginOne_65 g 5 o u2 1 o (Z, I, L) r M') ∧ ((I o 11) = 1 → Lp_X12_beginOne_65 g 5 o u2 0 o (Z, I, L) r M'))))))) : Lp_X12_beginOne_39 g 5 o u1 u2 (Z, I, L) r M' := by
  refine fr_aload_n (i := 0) (q := 0) rfl dX12_beginOne_39 rfl ?_
  refine fr_getI dX12_beginOne_40 rfl fl_X12_132 k_o ?_
  refine fr_iconst (v := 1) (by decide) dX12_beginOne_43 rfl ?_
  refine fr_icmp_eq (tgt := 51) dX12_beginOne_44 (by decide) rfl (fun hc => ?_) (fun hc => ?_)
  · have h := h.1 hc
    refine fr_aload_n (i := 0) (q := 0) rfl dX12_beginOne_51 rfl ?_
    refine fr_aload_n (i := 0) (q := 0) rfl dX12_beginOne_52 rfl ?_
    refine fr_getI dX12_beginOne_53 rfl fl_X12_132 k_o ?_
    refine fr_iconst (v := 1) (by decide) dX12_beginOne_56 rfl ?_
    refine fr_icmp_ne (tgt := 64) dX12_beginOne_57 (by decide) rfl (fun hc => ?_) (fun hc => ?_)
    · have h := h.1 hc
      refine fr_iconst (v := 1) (by decide) dX12_beginOne_64 rfl ?_
      exact fr_sub [0, 2] rfl h
    · have h := h.2 hc
      refine fr_iconst (v := 0) (by decide) dX12_beginOne_60 rfl ?_
      refine fr_goto (n := 65) dX12_beginOne_61 (by decide) ?_
      exact fr_sub [0, 2] rfl h
  · have h := h.2 hc
    refine fr_iload_n (i := 2) (q := 2) rfl dX12_beginOne_47 rfl ?_
    refine fr_if_lt (tgt := 94) dX12_beginOne_48 (by decide) rfl (fun hc => ?_) (fun hc => ?_)
    · have h := h.1 hc
      refine fr_aload_n (i := 0) (q := 0) rfl dX12_beginOne_94 rfl ?_
      refine fr_getI dX12_beginOne_95 rfl fl_X12_132 k_o ?_
      refine fr_bipush (v := 40) (by decide) dX12_beginOne_98 rfl ?_
      refine fr_icmp_ne (tgt := 110) dX12_beginOne_100 (by decide) rfl (fun hc => ?_) (fun hc => ?_)
      · have h := h.1 hc
        refine fr_aload_n (i := 0) (q := 0) rfl dX12_beginOne_110 rfl ?_
        refine fr_getI dX12_beginOne_111 rfl fl_X12_132 k_o ?_
        refine fr_bipush (v := 45) (by decide) dX12_beginOne_114 rfl ?_
        refine fr_icmp_ne (tgt := 125) dX12_beginOne_116 (by decide) rfl (fun hc => ?_) (fun hc => ?_)
        · have h := h.1 hc
          refine fr_aload_n (i := 0) (q := 0) rfl dX12_beginOne_125 rfl ?_
          refine fr_getI dX12_beginOne_126 rfl fl_X12_132 k_o ?_
          refine fr_iconst (v := 2) (by decide) dX12_beginOne_129 rfl ?_
          refine fr_icmp_ne (tgt := 151) dX12_beginOne_130 (by decide) rfl (fun hc => ?_) (fun hc => ?_)
          · have h := h.1 hc
            refine fr_aload_n (i := 0) (q := 0) rfl dX12_beginOne_151 rfl ?_
            refine fr_bipush (v := 110) (by decide) dX12_beginOne_152 rfl ?_
            refine fr_bipush (v := 111) (by decide) dX12_beginOne_154 rfl ?_
            refine fr_bipush (v := 116) (by decide) dX12_beginOne_156 rfl ?_
            obtain ⟨v1, hc2, h⟩ := h
            refine fr_callS2 (ν := mu_X12_w3) (st2 := [.long v1, rf g o]) (As := [.int 110, .int 111, .int 116]) (st := [rf g o]) (v := (some (.long v1))) (M1 := (Z, I, L)) dX12_beginOne_158 rfl ml_X12_149 mo_X12_w3 ms_X12_w3 (Nat.le_of_ble_eq_true rfl) rfl rfl (Nat.le_of_ble_eq_true rfl) hc2 rfl ?_
            obtain ⟨v3, hc4, h⟩ := h
            refine fr_callV2 (ν := mu_X12_isWord) (st2 := [.int v3]) (As := [.long v1]) (st := []) (v := (some (.int v3))) (M1 := (Z, I, L)) dX12_beginOne_161 rfl ml_X12_211 mo_X12_isWord mi_X12_isWord (ci := 12) rfl rfl k_o (Nat.le_of_ble_eq_true rfl) rfl rfl (Nat.le_of_ble_eq_true rfl) hc4 rfl ?_
            refine fr_if_eq (tgt := 184) dX12_beginOne_164 (by decide) rfl (fun hc => ?_) (fun hc => ?_)
            · have h := h.1 hc
              refine fr_iconst (v := 1) (by decide) dX12_beginOne_184 rfl ?_
              exact fr_iret rfl dX12_beginOne_185 h.1 h.2
            · have h := h.2 hc
              refine fr_aload_n (i := 0) (q := 0) rfl dX12_beginOne_167 rfl ?_
              refine fr_iload_n (i := 1) (q := 1) rfl dX12_beginOne_168 rfl ?_
              obtain ⟨v5, hc6, h⟩ := h
              refine fr_callV2 (ν := mu_X12_isAskAhead) (st2 := [.int v5]) (As := [.int u1]) (st := []) (v := (some (.int v5))) (M1 := (Z, I, L)) dX12_beginOne_169 rfl ml_X12_215 mo_X12_isAskAhead mi_X12_isAskAhead (ci := 12) rfl rfl k_o (Nat.le_of_ble_eq_true rfl) rfl rfl (Nat.le_of_ble_eq_true rfl) hc6 rfl ?_
              refine fr_if_eq (tgt := 184) dX12_beginOne_172 (by decide) rfl (fun hc => ?_) (fun hc => ?_)
              · have h := h.1 hc
                refine fr_iconst (v := 1) (by decide) dX12_beginOne_184 rfl ?_
                exact fr_iret rfl dX12_beginOne_185 h.1 h.2
              · have h := h.2 hc
                refine fr_aload_n (i := 0) (q := 0) rfl dX12_beginOne_175 rfl ?_
                refine fr_bipush (v := 20) (by decide) dX12_beginOne_176 rfl ?_
                obtain ⟨v7, I8, L9, hc10, h⟩ := h
                refine fr_callV2 (ν := mu_X12_opensBy) (st2 := [.int v7]) (As := [.int 20]) (st := []) (v := (some (.int v7))) (M1 := (Z, I8, L9)) dX12_beginOne_178 rfl ml_X12_206 mo_X12_opensBy mi_X12_opensBy (ci := 12) rfl rfl k_o (Nat.le_of_ble_eq_true rfl) rfl rfl (Nat.le_of_ble_eq_true rfl) hc10 rfl ?_
                refine fr_goto (n := 185) dX12_beginOne_181 (by decide) ?_
                exact fr_iret rfl dX12_beginOne_185 h.1 h.2
          · have h := h.2 hc
            refine fr_aload_n (i := 0) (q := 0) rfl dX12_beginOne_133 rfl ?_
            refine fr_getL dX12_beginOne_134 rfl fl_X12_145 k_o ?_
            refine fr_ldc2 (v := 26982) kc_X12_209 dX12_beginOne_137 rfl ?_
            refine fr_lcmp dX12_beginOne_140 rfl ?_
            refine fr_if_ne (tgt := 151) dX12_beginOne_141 (by decide) rfl (fun hc => ?_) (fun hc => ?_)
            · have h := h.1 hc
              refine fr_aload_n (i := 0) (q := 0) rfl dX12_beginOne_151 rfl ?_
              refine fr_bipush (v := 110) (by decide) dX12_beginOne_152 rfl ?_
              refine fr_bipush (v := 111) (by decide) dX12_beginOne_154 rfl ?_
              refine fr_bipush (v := 116) (by decide) dX12_beginOne_156 rfl ?_
              obtain ⟨v11, hc12, h⟩ := h
              refine fr_callS2 (ν := mu_X12_w3) (st2 := [.long v11, rf g o]) (As := [.int 110, .int 111, .int 116]) (st := [rf g o]) (v := (some (.long v11))) (M1 := (Z, I, L)) dX12_beginOne_158 rfl ml_X12_149 mo_X12_w3 ms_X12_w3 (Nat.le_of_ble_eq_true rfl) rfl rfl (Nat.le_of_ble_eq_true rfl) hc12 rfl ?_
              obtain ⟨v13, hc14, h⟩ := h
              refine fr_callV2 (ν := mu_X12_isWord) (st2 := [.int v13]) (As := [.long v11]) (st := []) (v := (some (.int v13))) (M1 := (Z, I, L)) dX12_beginOne_161 rfl ml_X12_211 mo_X12_isWord mi_X12_isWord (ci := 12) rfl rfl k_o (Nat.le_of_ble_eq_true rfl) rfl rfl (Nat.le_of_ble_eq_true rfl) hc14 rfl ?_
              refine fr_if_eq (tgt := 184) dX12_beginOne_164 (by decide) rfl (fun hc => ?_) (fun hc => ?_)
              · have h := h.1 hc
                refine fr_iconst (v := 1) (by decide) dX12_beginOne_184 rfl ?_
                exact fr_iret rfl dX12_beginOne_185 h.1 h.2
              · have h := h.2 hc
                refine fr_aload_n (i := 0) (q := 0) rfl dX12_beginOne_167 rfl ?_
                refine fr_iload_n (i := 1) (q := 1) rfl dX12_beginOne_168 rfl ?_
                obtain ⟨v15, hc16, h⟩ := h
                refine fr_callV2 (ν := mu_X12_isAskAhead) (st2 := [.int v15]) (As := [.int u1]) (st := []) (v := (some (.int v15))) (M1 := (Z, I, L)) dX12_beginOne_169 rfl ml_X12_215 mo_X12_isAskAhead mi_X12_isAskAhead (ci := 12) rfl rfl k_o (Nat.le_of_ble_eq_true rfl) rfl rfl (Nat.le_of_ble_eq_true rfl) hc16 rfl ?_
                refine fr_if_eq (tgt := 184) dX12_beginOne_172 (by decide) rfl (fun hc => ?_) (fun hc => ?_)
                · have h := h.1 hc
                  refine fr_iconst (v := 1) (by decide) dX12_beginOne_184 rfl ?_
                  exact fr_iret rfl dX12_beginOne_185 h.1 h.2
                · have h := h.2 hc
                  refine fr_aload_n (i := 0) (q := 0) rfl dX12_beginOne_175 rfl ?_
                  refine fr_bipush (v := 20) (by decide) dX12_beginOne_176 rfl ?_
                  obtain ⟨v17, I18, L19, hc20, h⟩ := h
                  refine fr_callV2 (ν := mu_X12_opensBy) (st2 := [.int v17]) (As := [.int 20]) (st := []) (v := (some (.int v17))) (M1 := (Z, I18, L19)) dX12_beginOne_178 rfl ml_X12_206 mo_X12_opensBy mi_X12_opensBy (ci := 12) rfl rfl k_o (Nat.le_of_ble_eq_true rfl) rfl rfl (Nat.le_of_ble_eq_true rfl) hc20 rfl ?_
                  refine fr_goto (n := 185) dX12_beginOne_181 (by decide) ?_
                  exact fr_iret rfl dX12_beginOne_185 h.1 h.2
            · have h := h.2 hc
              refine fr_aload_n (i := 0) (q := 0) rfl dX12_beginOne_144 rfl ?_
              refine fr_bipush (v := 41) (by decide) dX12_beginOne_145 rfl ?_
              obtain ⟨v21, I22, L23, hc24, h⟩ := h
              refine fr_callV2 (ν := mu_X12_opensBy) (st2 := [.int v21]) (As := [.int 41]) (st := []) (v := (some (.int v21))) (M1 := (Z, I22, L23)) dX12_beginOne_147 rfl ml_X12_206 mo_X12_opensBy mi_X12_opensBy (ci := 12) rfl rfl k_o (Nat.le_of_ble_eq_true rfl) rfl rfl (Nat.le_of_ble_eq_true rfl) hc24 rfl ?_
              exact fr_iret rfl dX12_beginOne_150 h.1 h.2
        · have h := h.2 hc
          refine fr_aload_n (i := 0) (q := 0) rfl dX12_beginOne_119 rfl ?_
          refine fr_iconst (v := 2) (by decide) dX12_beginOne_120 rfl ?_
          obtain ⟨v25, I26, L27, hc28, h⟩ := h
          refine fr_callV2 (ν := mu_X12_opensBy) (st2 := [.int v25]) (As := [.int 2]) (st := []) (v := (some (.int v25))) (M1 := (Z, I26, L27)) dX12_beginOne_121 rfl ml_X12_206 mo_X12_opensBy mi_X12_opensBy (ci := 12) rfl rfl k_o (Nat.le_of_ble_eq_true rfl) rfl rfl (Nat.le_of_ble_eq_true rfl) hc28 rfl ?_
          exact fr_iret rfl dX12_beginOne_124 h.1 h.2
      · have h := h.2 hc
        refine fr_aload_n (i := 0) (q := 0) rfl dX12_beginOne_103 rfl ?_
        refine fr_bipush (v := 40) (by decide) dX12_beginOne_104 rfl ?_
        obtain ⟨v29, I30, L31, hc32, h⟩ := h
        refine fr_callV2 (ν := mu_X12_opensBy) (st2 := [.int v29]) (As := [.int 40]) (st := []) (v := (some (.int v29))) (M1 := (Z, I30, L31)) dX12_beginOne_106 rfl ml_X12_206 mo_X12_opensBy mi_X12_opensBy (ci := 12) rfl rfl k_o (Nat.le_of_ble_eq_true rfl) rfl rfl (Nat.le_of_ble_eq_true rfl) hc32 rfl ?_
        exact fr_iret rfl dX12_beginOne_109 h.1 h.2
    · have h := h.2 hc
      refine fr_aload_n (i := 0) (q := 0) rfl dX12_beginOne_51 rfl ?_
      refine fr_aload_n (i := 0) (q := 0) rfl dX12_beginOne_52 rfl ?_
      refine fr_getI dX12_beginOne_53 rfl fl_X12_132 k_o ?_
      refine fr_iconst (v := 1) (by decide) dX12_beginOne_56 rfl ?_
      refine fr_icmp_ne (tgt := 64) dX12_beginOne_57 (by decide) rfl (fun hc => ?_) (fun hc => ?_)
      · have h := h.1 hc
        refine fr_iconst (v := 1) (by decide) dX12_beginOne_64 rfl ?_
        exact fr_sub [0, 2] rfl h
      · have h := h.2 hc
        refine fr_iconst (v := 0) (by decide) dX12_beginOne_60 rfl ?_
        refine fr_goto (n := 65) dX12_beginOne_61 (by decide) ?_
        exact fr_sub [0, 2] rfl h
theorem wp_X12_beginOne_65 {g : GE} {Z : Zs} {I : Nat → Nat → Int32} {L : Nat → Nat → Int64} {r : Option Value} {M' : Mem} {o : Nat} {u2 : Int32} {s0 : Int32} {t1 : Nat} (k_o : KM Z o 12) (k_t1 : KM Z t1 12) (h : ((¬ (I o 11) = 1 → (∃ (I1 : Nat → Nat → Int32) (L2 : Nat → Nat → Int64), Cl g 1 mu_X12_emit [rf g t1, .int s0, .int u2] (Z, I, L) none (Z, I1, L2) ∧ (∃ (I4 : Nat → Nat → Int32) (L5 : Nat → Nat → Int64), Cl g 3 mu_X12_nextToken [rf g o] (Z, I1, L2) none (Z, I4, L5) ∧ (∃ (I7 : Nat → Nat → Int32) (L8 : Nat → Nat → Int64), Cl g 3 mu_X12_whole [rf g o] (Z, I4, L5) none (Z, I7, L8) ∧ (r = some (.int 0) ∧ M' = (Z, I7, L8)))))) ∧ ((I o 11) = 1 → (∃ (I10 : Nat → Nat → Int32) (L11 : Nat → Nat → Int64), Cl g 1 mu_X12_emit [rf g t1, .int s0, .int (I o 12)] (Z, I, L) none (Z, I10, L11) ∧ (∃ (I13 : Nat → Nat → Int32) (L14 : Nat → Nat → Int64), Cl g 3 mu_X12_nextToken [rf g o] (Z, I10, L11) none (Z, I13, L14) ∧ (∃ (I16 : Nat → Nat → Int32) (L17 : Nat → Nat → Int64), Cl g 3 mu_X12_whole [rf g o] (Z, I13, L14) none (Z, I16, L17) ∧ (r = some (.int 0) ∧ M' = (Z, I16, L17)))))))) : Lp_X12_beginOne_65 g 5 o u2 s0 t1 (Z, I, L) r M' := by
  refine fr_aload_n (i := 0) (q := 0) rfl dX12_beginOne_65 rfl ?_
  refine fr_getI dX12_beginOne_66 rfl fl_X12_132 k_o ?_
  refine fr_iconst (v := 1) (by decide) dX12_beginOne_69 rfl ?_
  refine fr_icmp_ne (tgt := 80) dX12_beginOne_70 (by decide) rfl (fun hc => ?_) (fun hc => ?_)
  · have h := h.1 hc
    refine fr_iload_n (i := 2) (q := 1) rfl dX12_beginOne_80 rfl ?_
    obtain ⟨I1, L2, hc3, h⟩ := h
    refine fr_callV2 (ν := mu_X12_emit) (st2 := []) (As := [.int s0, .int u2]) (st := []) (v := none) (M1 := (Z, I1, L2)) dX12_beginOne_81 rfl ml_X12_169 mo_X12_emit mi_X12_emit (ci := 12) rfl rfl k_t1 (Nat.le_of_ble_eq_true rfl) rfl rfl (Nat.le_of_ble_eq_true rfl) hc3 rfl ?_
    refine fr_aload_n (i := 0) (q := 0) rfl dX12_beginOne_84 rfl ?_
    obtain ⟨I4, L5, hc6, h⟩ := h
    refine fr_callV2 (ν := mu_X12_nextToken) (st2 := []) (As := []) (st := []) (v := none) (M1 := (Z, I4, L5)) dX12_beginOne_85 rfl ml_X12_194 mo_X12_nextToken mi_X12_nextToken (ci := 12) rfl rfl k_o (Nat.le_of_ble_eq_true rfl) rfl rfl (Nat.le_of_ble_eq_true rfl) hc6 rfl ?_
    refine fr_aload_n (i := 0) (q := 0) rfl dX12_beginOne_88 rfl ?_
    obtain ⟨I7, L8, hc9, h⟩ := h
    refine fr_callV2 (ν := mu_X12_whole) (st2 := []) (As := []) (st := []) (v := none) (M1 := (Z, I7, L8)) dX12_beginOne_89 rfl ml_X12_203 mo_X12_whole mi_X12_whole (ci := 12) rfl rfl k_o (Nat.le_of_ble_eq_true rfl) rfl rfl (Nat.le_of_ble_eq_true rfl) hc9 rfl ?_
    refine fr_iconst (v := 0) (by decide) dX12_beginOne_92 rfl ?_
    exact fr_iret rfl dX12_beginOne_93 h.1 h.2
  · have h := h.2 hc
    refine fr_aload_n (i := 0) (q := 0) rfl dX12_beginOne_73 rfl ?_
    refine fr_getI dX12_beginOne_74 rfl fl_X12_138 k_o ?_
    refine fr_goto (n := 81) dX12_beginOne_77 (by decide) ?_
    obtain ⟨I10, L11, hc12, h⟩ := h
    refine fr_callV2 (ν := mu_X12_emit) (st2 := []) (As := [.int s0, .int (I o 12)]) (st := []) (v := none) (M1 := (Z, I10, L11)) dX12_beginOne_81 rfl ml_X12_169 mo_X12_emit mi_X12_emit (ci := 12) rfl rfl k_t1 (Nat.le_of_ble_eq_true rfl) rfl rfl (Nat.le_of_ble_eq_true rfl) hc12 rfl ?_
    refine fr_aload_n (i := 0) (q := 0) rfl dX12_beginOne_84 rfl ?_
    obtain ⟨I13, L14, hc15, h⟩ := h
    refine fr_callV2 (ν := mu_X12_nextToken) (st2 := []) (As := []) (st := []) (v := none) (M1 := (Z, I13, L14)) dX12_beginOne_85 rfl ml_X12_194 mo_X12_nextToken mi_X12_nextToken (ci := 12) rfl rfl k_o (Nat.le_of_ble_eq_true rfl) rfl rfl (Nat.le_of_ble_eq_true rfl) hc15 rfl ?_
    refine fr_aload_n (i := 0) (q := 0) rfl dX12_beginOne_88 rfl ?_
    obtain ⟨I16, L17, hc18, h⟩ := h
    refine fr_callV2 (ν := mu_X12_whole) (st2 := []) (As := []) (st := []) (v := none) (M1 := (Z, I16, L17)) dX12_beginOne_89 rfl ml_X12_203 mo_X12_whole mi_X12_whole (ci := 12) rfl rfl k_o (Nat.le_of_ble_eq_true rfl) rfl rfl (Nat.le_of_ble_eq_true rfl) hc18 rfl ?_
    refine fr_iconst (v := 0) (by decide) dX12_beginOne_92 rfl ?_
    exact fr_iret rfl dX12_beginOne_93 h.1 h.2
theorem cp_X12_compareOf {g : GE} {Z : Zs} {I : Nat → Nat → Int32} {L : Nat → Nat → Int64} {r : Option Value} {M' : Mem} {o : Nat} (k_o : KM Z o 12) (h : ((¬ (I o 11) = 60 → ((¬ (I o 11) = 4 → ((¬ (I o 11) = 62 → ((¬ (I o 11) = 5 → ((¬ (I o 11) = 61 → ((¬ (I o 11) = 35 → (r = some (.int ((-1))) ∧ M' = (Z, I, L))) ∧ ((I o 11) = 35 → (r = some (.int 15) ∧ M' = (Z, I, L))))) ∧ ((I o 11) = 61 → (r = some (.int 14) ∧ M' = (Z, I, L))))) ∧ ((I o 11) = 5 → (r = some (.int 13) ∧ M' = (Z, I, L))))) ∧ ((I o 11) = 62 → (r = some (.int 12) ∧ M' = (Z, I, L))))) ∧ ((I o 11) = 4 → (r = some (.int 11) ∧ M' = (Z, I, L))))) ∧ ((I o 11) = 60 → (r = some (.int 10) ∧ M' = (Z, I, L))))) : Cl g 1 mu_X12_compareOf [rf g o] (Z, I, L) r M' := by
  refine cl_of (lv := [(0, rf g o)]) (by decide) (Nat.le_of_ble_eq_true rfl) rfl ?_
  refine fr_aload_n (i := 0) (q := 0) rfl dX12_compareOf_0 rfl ?_
  refine fr_getI dX12_compareOf_1 rfl fl_X12_132 k_o ?_
  refine fr_bipush (v := 60) (by decide) dX12_compareOf_4 rfl ?_
  refine fr_icmp_ne (tgt := 14) dX12_compareOf_6 (by decide) rfl (fun hc => ?_) (fun hc => ?_)
  · have h := h.1 hc
    refine fr_aload_n (i := 0) (q := 0) rfl dX12_compareOf_14 rfl ?_
    refine fr_getI dX12_compareOf_15 rfl fl_X12_132 k_o ?_
    refine fr_iconst (v := 4) (by decide) dX12_compareOf_18 rfl ?_
    refine fr_icmp_ne (tgt := 27) dX12_compareOf_19 (by decide) rfl (fun hc => ?_) (fun hc => ?_)
    · have h := h.1 hc
      refine fr_aload_n (i := 0) (q := 0) rfl dX12_compareOf_27 rfl ?_
      refine fr_getI dX12_compareOf_28 rfl fl_X12_132 k_o ?_
      refine fr_bipush (v := 62) (by decide) dX12_compareOf_31 rfl ?_
      refine fr_icmp_ne (tgt := 41) dX12_compareOf_33 (by decide) rfl (fun hc => ?_) (fun hc => ?_)
      · have h := h.1 hc
        refine fr_aload_n (i := 0) (q := 0) rfl dX12_compareOf_41 rfl ?_
        refine fr_getI dX12_compareOf_42 rfl fl_X12_132 k_o ?_
        refine fr_iconst (v := 5) (by decide) dX12_compareOf_45 rfl ?_
        refine fr_icmp_ne (tgt := 54) dX12_compareOf_46 (by decide) rfl (fun hc => ?_) (fun hc => ?_)
        · have h := h.1 hc
          refine fr_aload_n (i := 0) (q := 0) rfl dX12_compareOf_54 rfl ?_
          refine fr_getI dX12_compareOf_55 rfl fl_X12_132 k_o ?_
          refine fr_bipush (v := 61) (by decide) dX12_compareOf_58 rfl ?_
          refine fr_icmp_ne (tgt := 68) dX12_compareOf_60 (by decide) rfl (fun hc => ?_) (fun hc => ?_)
          · have h := h.1 hc
            refine fr_aload_n (i := 0) (q := 0) rfl dX12_compareOf_68 rfl ?_
            refine fr_getI dX12_compareOf_69 rfl fl_X12_132 k_o ?_
            refine fr_bipush (v := 35) (by decide) dX12_compareOf_72 rfl ?_
            refine fr_icmp_ne (tgt := 82) dX12_compareOf_74 (by decide) rfl (fun hc => ?_) (fun hc => ?_)
            · have h := h.1 hc
              refine fr_iconst (v := (-1)) (by decide) dX12_compareOf_82 rfl ?_
              exact fr_iret rfl dX12_compareOf_83 h.1 h.2
            · have h := h.2 hc
              refine fr_bipush (v := 15) (by decide) dX12_compareOf_77 rfl ?_
              refine fr_goto (n := 83) dX12_compareOf_79 (by decide) ?_
              exact fr_iret rfl dX12_compareOf_83 h.1 h.2
          · have h := h.2 hc
            refine fr_bipush (v := 14) (by decide) dX12_compareOf_63 rfl ?_
            refine fr_goto (n := 83) dX12_compareOf_65 (by decide) ?_
            exact fr_iret rfl dX12_compareOf_83 h.1 h.2
        · have h := h.2 hc
          refine fr_bipush (v := 13) (by decide) dX12_compareOf_49 rfl ?_
          refine fr_goto (n := 83) dX12_compareOf_51 (by decide) ?_
          exact fr_iret rfl dX12_compareOf_83 h.1 h.2
      · have h := h.2 hc
        refine fr_bipush (v := 12) (by decide) dX12_compareOf_36 rfl ?_
        refine fr_goto (n := 83) dX12_compareOf_38 (by decide) ?_
        exact fr_iret rfl dX12_compareOf_83 h.1 h.2
    · have h := h.2 hc
      refine fr_bipush (v := 11) (by decide) dX12_compareOf_22 rfl ?_
      refine fr_goto (n := 83) dX12_compareOf_24 (by decide) ?_
      exact fr_iret rfl dX12_compareOf_83 h.1 h.2
  · have h := h.2 hc
    refine fr_bipush (v := 10) (by decide) dX12_compareOf_9 rfl ?_
    refine fr_goto (n := 83) dX12_compareOf_11 (by decide) ?_
    exact fr_iret rfl dX12_compareOf_83 h.1 h.2
theorem cp_X12_betweenOf {g : GE} {Z : Zs} {I : Nat → Nat → Int32} {L : Nat → Nat → Int64} {r : Option Value} {M' : Mem} {o : Nat} {x1 : Int32} (k_o : KM Z o 12) (h : ((¬ (I o 11) = 43 → ((¬ (I o 11) = 45 → ((¬ (I o 11) = 42 → ((¬ (I o 11) = 47 → (∃ (v1 : Int32), Cl g 2 mu_X12_kindOpen [rf g o, .int x1] (Z, I, L) (some (.int v1)) (Z, I, L) ∧ ((v1 = 41 → (∃ (v3 : Int32), Cl g 2 mu_X12_isCompared [rf g o] (Z, I, L) (some (.int v3)) (Z, I, L) ∧ ((¬ v3 = 0 → (∃ (v5 : Int64), Cl g 1 mu_X12_w3 [.int 97, .int 110, .int 100] (Z, I, L) (some (.long v5)) (Z, I, L) ∧ (∃ (v7 : Int32), Cl g 1 mu_X12_isWord [rf g o, .long v5] (Z, I, L) (some (.int v7)) (Z, I, L) ∧ ((v7 = 0 → ((¬ (I o 11) = 2 → (r = some (.int ((-1))) ∧ M' = (Z, I, L))) ∧ ((I o 11) = 2 → ((¬ (lg_cmp (L o 13) 28530) = 0 → (r = some (.int ((-1))) ∧ M' = (Z, I, L))) ∧ ((lg_cmp (L o 13) 28530) = 0 → (r = some (.int 22) ∧ M' = (Z, I, L))))))) ∧ (¬ v7 = 0 → (r = some (.int 21) ∧ M' = (Z, I, L))))))) ∧ (v3 = 0 → (∃ (v9 : Int32), Cl g 1 mu_X12_compareOf [rf g o] (Z, I, L) (some (.int v9)) (Z, I, L) ∧ (r = some (.int v9) ∧ M' = (Z, I, L))))))) ∧ (¬ v1 = 41 → (r = some (.int ((-1))) ∧ M' = (Z, I, L)))))) ∧ ((I o 11) = 47 → (r = some (.int 6) ∧ M' = (Z, I, L))))) ∧ ((I o 11) = 42 → (r = some (.int 5) ∧ M' = (Z, I, L))))) ∧ ((I o 11) = 45 → (r = some (.int 4) ∧ M' = (Z, I, L))))) ∧ ((I o 11) = 43 → (r = some (.int 3) ∧ M' = (Z, I, L))))) : Cl g 3 mu_X12_betweenOf [rf g o, .int x1] (Z, I, L) r M' := by
  refine cl_of (lv := [(0, rf g o), (1, .int x1)]) (by decide) (Nat.le_of_ble_eq_true rfl) rfl ?_
  refine fr_aload_n (i := 0) (q := 0) rfl dX12_betweenOf_0 rfl ?_
  refine fr_getI dX12_betweenOf_1 rfl fl_X12_132 k_o ?_
  refine fr_bipush (v := 43) (by decide) dX12_betweenOf_4 rfl ?_
  refine fr_icmp_ne (tgt := 11) dX12_betweenOf_6 (by decide) rfl (fun hc => ?_) (fun hc => ?_)
  · have h := h.1 hc
    refine fr_aload_n (i := 0) (q := 0) rfl dX12_betweenOf_11 rfl ?_
    refine fr_getI dX12_betweenOf_12 rfl fl_X12_132 k_o ?_
    refine fr_bipush (v := 45) (by decide) dX12_betweenOf_15 rfl ?_
    refine fr_icmp_ne (tgt := 22) dX12_betweenOf_17 (by decide) rfl (fun hc => ?_) (fun hc => ?_)
    · have h := h.1 hc
      refine fr_aload_n (i := 0) (q := 0) rfl dX12_betweenOf_22 rfl ?_
      refine fr_getI dX12_betweenOf_23 rfl fl_X12_132 k_o ?_
      refine fr_bipush (v := 42) (by decide) dX12_betweenOf_26 rfl ?_
      refine fr_icmp_ne (tgt := 33) dX12_betweenOf_28 (by decide) rfl (fun hc => ?_) (fun hc => ?_)
      · have h := h.1 hc
        refine fr_aload_n (i := 0) (q := 0) rfl dX12_betweenOf_33 rfl ?_
        refine fr_getI dX12_betweenOf_34 rfl fl_X12_132 k_o ?_
        refine fr_bipush (v := 47) (by decide) dX12_betweenOf_37 rfl ?_
        refine fr_icmp_ne (tgt := 45) dX12_betweenOf_39 (by decide) rfl (fun hc => ?_) (fun hc => ?_)
        · have h := h.1 hc
          refine fr_aload_n (i := 0) (q := 0) rfl dX12_betweenOf_45 rfl ?_
          refine fr_iload_n (i := 1) (q := 1) rfl dX12_betweenOf_46 rfl ?_
          obtain ⟨v1, hc2, h⟩ := h
          refine fr_callV2 (ν := mu_X12_kindOpen) (st2 := [.int v1]) (As := [.int x1]) (st := []) (v := (some (.int v1))) (M1 := (Z, I, L)) dX12_betweenOf_47 rfl ml_X12_187 mo_X12_kindOpen mi_X12_kindOpen (ci := 12) rfl rfl k_o (Nat.le_of_ble_eq_true rfl) rfl rfl (Nat.le_of_ble_eq_true rfl) hc2 rfl ?_
          refine fr_bipush (v := 41) (by decide) dX12_betweenOf_50 rfl ?_
          refine fr_icmp_eq (tgt := 57) dX12_betweenOf_52 (by decide) rfl (fun hc => ?_) (fun hc => ?_)
          · have h := h.1 hc
            refine fr_aload_n (i := 0) (q := 0) rfl dX12_betweenOf_57 rfl ?_
            obtain ⟨v3, hc4, h⟩ := h
            refine fr_callV2 (ν := mu_X12_isCompared) (st2 := [.int v3]) (As := []) (st := []) (v := (some (.int v3))) (M1 := (Z, I, L)) dX12_betweenOf_58 rfl ml_X12_219 mo_X12_isCompared mi_X12_isCompared (ci := 12) rfl rfl k_o (Nat.le_of_ble_eq_true rfl) rfl rfl (Nat.le_of_ble_eq_true rfl) hc4 rfl ?_
            refine fr_if_ne (tgt := 69) dX12_betweenOf_61 (by decide) rfl (fun hc => ?_) (fun hc => ?_)
            · have h := h.1 hc
              refine fr_aload_n (i := 0) (q := 0) rfl dX12_betweenOf_69 rfl ?_
              refine fr_bipush (v := 97) (by decide) dX12_betweenOf_70 rfl ?_
              refine fr_bipush (v := 110) (by decide) dX12_betweenOf_72 rfl ?_
              refine fr_bipush (v := 100) (by decide) dX12_betweenOf_74 rfl ?_
              obtain ⟨v5, hc6, h⟩ := h
              refine fr_callS2 (ν := mu_X12_w3) (st2 := [.long v5, rf g o]) (As := [.int 97, .int 110, .int 100]) (st := [rf g o]) (v := (some (.long v5))) (M1 := (Z, I, L)) dX12_betweenOf_76 rfl ml_X12_149 mo_X12_w3 ms_X12_w3 (Nat.le_of_ble_eq_true rfl) rfl rfl (Nat.le_of_ble_eq_true rfl) hc6 rfl ?_
              obtain ⟨v7, hc8, h⟩ := h
              refine fr_callV2 (ν := mu_X12_isWord) (st2 := [.int v7]) (As := [.long v5]) (st := []) (v := (some (.int v7))) (M1 := (Z, I, L)) dX12_betweenOf_79 rfl ml_X12_211 mo_X12_isWord mi_X12_isWord (ci := 12) rfl rfl k_o (Nat.le_of_ble_eq_true rfl) rfl rfl (Nat.le_of_ble_eq_true rfl) hc8 rfl ?_
              refine fr_if_eq (tgt := 90) dX12_betweenOf_82 (by decide) rfl (fun hc => ?_) (fun hc => ?_)
              · have h := h.1 hc
                refine fr_aload_n (i := 0) (q := 0) rfl dX12_betweenOf_90 rfl ?_
                refine fr_getI dX12_betweenOf_91 rfl fl_X12_132 k_o ?_
                refine fr_iconst (v := 2) (by decide) dX12_betweenOf_94 rfl ?_
                refine fr_icmp_ne (tgt := 114) dX12_betweenOf_95 (by decide) rfl (fun hc => ?_) (fun hc => ?_)
                · have h := h.1 hc
                  refine fr_iconst (v := (-1)) (by decide) dX12_betweenOf_114 rfl ?_
                  exact fr_iret rfl dX12_betweenOf_115 h.1 h.2
                · have h := h.2 hc
                  refine fr_aload_n (i := 0) (q := 0) rfl dX12_betweenOf_98 rfl ?_
                  refine fr_getL dX12_betweenOf_99 rfl fl_X12_145 k_o ?_
                  refine fr_ldc2 (v := 28530) kc_X12_226 dX12_betweenOf_102 rfl ?_
                  refine fr_lcmp dX12_betweenOf_105 rfl ?_
                  refine fr_if_ne (tgt := 114) dX12_betweenOf_106 (by decide) rfl (fun hc => ?_) (fun hc => ?_)
                  · have h := h.1 hc
                    refine fr_iconst (v := (-1)) (by decide) dX12_betweenOf_114 rfl ?_
                    exact fr_iret rfl dX12_betweenOf_115 h.1 h.2
                  · have h := h.2 hc
                    refine fr_bipush (v := 22) (by decide) dX12_betweenOf_109 rfl ?_
                    refine fr_goto (n := 115) dX12_betweenOf_111 (by decide) ?_
                    exact fr_iret rfl dX12_betweenOf_115 h.1 h.2
              · have h := h.2 hc
                refine fr_bipush (v := 21) (by decide) dX12_betweenOf_85 rfl ?_
                refine fr_goto (n := 115) dX12_betweenOf_87 (by decide) ?_
                exact fr_iret rfl dX12_betweenOf_115 h.1 h.2
            · have h := h.2 hc
              refine fr_aload_n (i := 0) (q := 0) rfl dX12_betweenOf_64 rfl ?_
              obtain ⟨v9, hc10, h⟩ := h
              refine fr_callV2 (ν := mu_X12_compareOf) (st2 := [.int v9]) (As := []) (st := []) (v := (some (.int v9))) (M1 := (Z, I, L)) dX12_betweenOf_65 rfl ml_X12_223 mo_X12_compareOf mi_X12_compareOf (ci := 12) rfl rfl k_o (Nat.le_of_ble_eq_true rfl) rfl rfl (Nat.le_of_ble_eq_true rfl) hc10 rfl ?_
              exact fr_iret rfl dX12_betweenOf_68 h.1 h.2
          · have h := h.2 hc
            refine fr_iconst (v := (-1)) (by decide) dX12_betweenOf_55 rfl ?_
            exact fr_iret rfl dX12_betweenOf_56 h.1 h.2
        · have h := h.2 hc
          refine fr_bipush (v := 6) (by decide) dX12_betweenOf_42 rfl ?_
          exact fr_iret rfl dX12_betweenOf_44 h.1 h.2
      · have h := h.2 hc
        refine fr_iconst (v := 5) (by decide) dX12_betweenOf_31 rfl ?_
        exact fr_iret rfl dX12_betweenOf_32 h.1 h.2
    · have h := h.2 hc
      refine fr_iconst (v := 4) (by decide) dX12_betweenOf_20 rfl ?_
      exact fr_iret rfl dX12_betweenOf_21 h.1 h.2
  · have h := h.2 hc
    refine fr_iconst (v := 3) (by decide) dX12_betweenOf_9 rfl ?_
    exact fr_iret rfl dX12_betweenOf_10 h.1 h.2
abbrev Lp_X12_behindOne_25 (g : GE) (d : Nat) (o : Nat) (u2 : Int32) (u3 : Int32) (s0 : Int32) (M : Mem) (r : Option Value) (M' : Mem) : Prop := Fr g d mu_X12_behindOne 25 [(0, rf g o), (2, .int u2), (3, .int u3)] [.int s0] M r M'
theorem cp_X12_behindOne {g : GE} {Z : Zs} {I : Nat → Nat → Int32} {L : Nat → Nat → Int64} {r : Option Value} {M' : Mem} {o : Nat} {x1 : Int32} {o_pile : Nat} (k_o : KM Z o 12) (r_o_pile : Z.2.1 o 18 = some o_pile) (k_o_pile : KM Z o_pile 13) (h : (∃ (v1 : Int32), Cl g 3 mu_X12_betweenOf [rf g o, .int x1] (Z, I, L) (some (.int v1)) (Z, I, L) ∧ (∃ (v3 : Int32), Cl g 1 mu_X12_marker [rf g o] (Z, I, L) (some (.int v3)) (Z, I, L) ∧ ((0 ≤ v3 → (vp_in v3 (Z.2.2.1 o_pile) ∧ Lp_X12_behindOne_25 g 4 o v1 v3 (I o_pile v3.toNatClampNeg) (Z, I, L) r M')) ∧ (¬ 0 ≤ v3 → Lp_X12_behindOne_25 g 4 o v1 v3 ((-1)) (Z, I, L) r M'))))) : Cl g 4 mu_X12_behindOne [rf g o, .int x1] (Z, I, L) r M' := by
  refine cl_of (lv := [(0, rf g o), (1, .int x1)]) (by decide) (Nat.le_of_ble_eq_true rfl) rfl ?_
  refine fr_aload_n (i := 0) (q := 0) rfl dX12_behindOne_0 rfl ?_
  refine fr_iload_n (i := 1) (q := 1) rfl dX12_behindOne_1 rfl ?_
  obtain ⟨v1, hc2, h⟩ := h
  refine fr_callV2 (ν := mu_X12_betweenOf) (st2 := [.int v1]) (As := [.int x1]) (st := []) (v := (some (.int v1))) (M1 := (Z, I, L)) dX12_behindOne_2 rfl ml_X12_228 mo_X12_betweenOf mi_X12_betweenOf (ci := 12) rfl rfl k_o (Nat.le_of_ble_eq_true rfl) rfl rfl (Nat.le_of_ble_eq_true rfl) hc2 rfl ?_
  refine fr_istore_n (i := 2) (lv' := [(2, .int v1), (0, rf g o), (1, .int x1)]) dX12_behindOne_5 rfl (by decide) rfl ?_
  refine fr_aload_n (i := 0) (q := 1) rfl dX12_behindOne_6 rfl ?_
  obtain ⟨v3, hc4, h⟩ := h
  refine fr_callV2 (ν := mu_X12_marker) (st2 := [.int v3]) (As := []) (st := []) (v := (some (.int v3))) (M1 := (Z, I, L)) dX12_behindOne_7 rfl ml_X12_183 mo_X12_marker mi_X12_marker (ci := 12) rfl rfl k_o (Nat.le_of_ble_eq_true rfl) rfl rfl (Nat.le_of_ble_eq_true rfl) hc4 rfl ?_
  refine fr_istore_n (i := 3) (lv' := [(3, .int v3), (2, .int v1), (0, rf g o), (1, .int x1)]) dX12_behindOne_10 rfl (by decide) rfl ?_
  refine fr_iload_n (i := 3) (q := 0) rfl dX12_behindOne_11 rfl ?_
  refine fr_if_ge (tgt := 19) dX12_behindOne_12 (by decide) rfl (fun hc => ?_) (fun hc => ?_)
  · have h := h.1 hc
    refine fr_aload_n (i := 0) (q := 2) rfl dX12_behindOne_19 rfl ?_
    refine fr_getR dX12_behindOne_20 rfl fl_X12_29 k_o r_o_pile ?_
    refine fr_iload_n (i := 3) (q := 0) rfl dX12_behindOne_23 rfl ?_
    obtain ⟨hz5, h⟩ := h
    refine fr_iald dX12_behindOne_24 rfl k_o_pile hz5 ?_
    exact fr_sub [2, 1, 0] rfl h
  · have h := h.2 hc
    refine fr_iconst (v := (-1)) (by decide) dX12_behindOne_15 rfl ?_
    refine fr_goto (n := 25) dX12_behindOne_16 (by decide) ?_
    exact fr_sub [2, 1, 0] rfl h
abbrev Lp_X12_behindOne_68 (g : GE) (d : Nat) (o : Nat) (u3 : Int32) (u4 : Int32) (M : Mem) (r : Option Value) (M' : Mem) : Prop := Fr g d mu_X12_behindOne 68 [(0, rf g o), (3, .int u3), (4, .int u4)] [] M r M'
theorem wp_X12_behindOne_25 {g : GE} {Z : Zs} {I : Nat → Nat → Int32} {L : Nat → Nat → Int64} {r : Option Value} {M' : Mem} {o : Nat} {u2 : Int32} {u3 : Int32} {s0 : Int32} (k_o : KM Z o 12) (h : ((u2 < 0 → ((¬ (I o 11) = 41 → Lp_X12_behindOne_68 g 4 o u3 s0 (Z, I, L) r M') ∧ ((I o 11) = 41 → ((s0 = 40 → (∃ (I1 : Nat → Nat → Int32) (L2 : Nat → Nat → Int64), Cl g 2 mu_X12_settle [rf g o, .int 1] (Z, I, L) none (Z, I1, L2) ∧ (∀ I4 : Nat → Nat → Int32, I4 = rw1 I1 o (upd (I1 o) 19 ((I1 o 19) - 1)) → (∀ I5 : Nat → Nat → Int32, I5 = rw1 I4 o (upd (I4 o) 20 ((I4 o 20) - 1)) → ((¬ s0 = 43 → (∃ (I6 : Nat → Nat → Int32) (L7 : Nat → Nat → Int64), Cl g 3 mu_X12_whole [rf g o] (Z, I5, L2) none (Z, I6, L7) ∧ (∃ (I9 : Nat → Nat → Int32) (L10 : Nat → Nat → Int64), Cl g 3 mu_X12_nextToken [rf g o] (Z, I6, L7) none (Z, I9, L10) ∧ (r = some (.int 1) ∧ M' = (Z, I9, L10))))) ∧ (s0 = 43 → (∃ (I12 : Nat → Nat → Int32) (L13 : Nat → Nat → Int64), Cl g 1 mu_X12_emit [rf g o, .int 23, .int 0] (Z, I5, L2) none (Z, I12, L13) ∧ (∃ (I15 : Nat → Nat → Int32) (L16 : Nat → Nat → Int64), Cl g 3 mu_X12_whole [rf g o] (Z, I12, L13) none (Z, I15, L16) ∧ (∃ (I18 : Nat → Nat → Int32) (L19 : Nat → Nat → Int64), Cl g 3 mu_X12_nextToken [rf g o] (Z, I15, L16) none (Z, I18, L19) ∧ (r = some (.int 1) ∧ M' = (Z, I18, L19))))))))))) ∧ (¬ s0 = 40 → Lp_X12_behindOne_68 g 4 o u3 s0 (Z, I, L) r M'))))) ∧ (¬ u2 < 0 → (∃ (v21 : Int32), Cl g 1 mu_X12_rank [.int u2] (Z, I, L) (some (.int v21)) (Z, I, L) ∧ (∃ (I23 : Nat → Nat → Int32) (L24 : Nat → Nat → Int64), Cl g 2 mu_X12_settle [rf g o, .int v21] (Z, I, L) none (Z, I23, L24) ∧ (∃ (I26 : Nat → Nat → Int32) (L27 : Nat → Nat → Int64), Cl g 1 mu_X12_push [rf g o, .int u2] (Z, I23, L24) none (Z, I26, L27) ∧ (∀ I29 : Nat → Nat → Int32, I29 = rw1 I26 o (upd (I26 o) 21 0) → (∃ (I30 : Nat → Nat → Int32) (L31 : Nat → Nat → Int64), Cl g 3 mu_X12_nextToken [rf g o] (Z, I29, L27) none (Z, I30, L31) ∧ (r = some (.int 1) ∧ M' = (Z, I30, L31)))))))))) : Lp_X12_behindOne_25 g 4 o u2 u3 s0 (Z, I, L) r M' := by
  refine fr_istore (lv' := [(4, .int s0), (0, rf g o), (2, .int u2), (3, .int u3)]) dX12_behindOne_25 rfl (by decide) rfl ?_
  refine fr_iload_n (i := 2) (q := 2) rfl dX12_behindOne_27 rfl ?_
  refine fr_if_lt (tgt := 52) dX12_behindOne_28 (by decide) rfl (fun hc => ?_) (fun hc => ?_)
  · have h := h.1 hc
    refine fr_aload_n (i := 0) (q := 1) rfl dX12_behindOne_52 rfl ?_
    refine fr_getI dX12_behindOne_53 rfl fl_X12_132 k_o ?_
    refine fr_bipush (v := 41) (by decide) dX12_behindOne_56 rfl ?_
    refine fr_icmp_ne (tgt := 68) dX12_behindOne_58 (by decide) rfl (fun hc => ?_) (fun hc => ?_)
    · have h := h.1 hc
      exact fr_sub [1, 3, 0] rfl h
    · have h := h.2 hc
      refine fr_iload (q := 0) rfl dX12_behindOne_61 rfl ?_
      refine fr_bipush (v := 40) (by decide) dX12_behindOne_63 rfl ?_
      refine fr_icmp_eq (tgt := 91) dX12_behindOne_65 (by decide) rfl (fun hc => ?_) (fun hc => ?_)
      · have h := h.1 hc
        refine fr_aload_n (i := 0) (q := 1) rfl dX12_behindOne_91 rfl ?_
        refine fr_iconst (v := 1) (by decide) dX12_behindOne_92 rfl ?_
        obtain ⟨I1, L2, hc3, h⟩ := h
        refine fr_callV2 (ν := mu_X12_settle) (st2 := []) (As := [.int 1]) (st := []) (v := none) (M1 := (Z, I1, L2)) dX12_behindOne_93 rfl ml_X12_180 mo_X12_settle mi_X12_settle (ci := 12) rfl rfl k_o (Nat.le_of_ble_eq_true rfl) rfl rfl (Nat.le_of_ble_eq_true rfl) hc3 rfl ?_
        refine fr_aload_n (i := 0) (q := 1) rfl dX12_behindOne_96 rfl ?_
        refine fr_dup rfl dX12_behindOne_97 rfl ?_
        refine fr_getI dX12_behindOne_98 rfl fl_X12_163 k_o ?_
        refine fr_iconst (v := 1) (by decide) dX12_behindOne_101 rfl ?_
        refine fr_isub dX12_behindOne_102 rfl ?_
        refine fr_putI dX12_behindOne_103 rfl fp_X12_163 k_o ?_
        refine fr_memI (fun I4 hI4 => ?_)
        have h := h I4 hI4
        refine fr_aload_n (i := 0) (q := 1) rfl dX12_behindOne_106 rfl ?_
        refine fr_dup rfl dX12_behindOne_107 rfl ?_
        refine fr_getI dX12_behindOne_108 rfl fl_X12_173 k_o ?_
        refine fr_iconst (v := 1) (by decide) dX12_behindOne_111 rfl ?_
        refine fr_isub dX12_behindOne_112 rfl ?_
        refine fr_putI dX12_behindOne_113 rfl fp_X12_173 k_o ?_
        refine fr_memI (fun I5 hI5 => ?_)
        have h := h I5 hI5
        refine fr_iload (q := 0) rfl dX12_behindOne_116 rfl ?_
        refine fr_bipush (v := 43) (by decide) dX12_behindOne_118 rfl ?_
        refine fr_icmp_ne (tgt := 130) dX12_behindOne_120 (by decide) rfl (fun hc => ?_) (fun hc => ?_)
        · have h := h.1 hc
          refine fr_aload_n (i := 0) (q := 1) rfl dX12_behindOne_130 rfl ?_
          obtain ⟨I6, L7, hc8, h⟩ := h
          refine fr_callV2 (ν := mu_X12_whole) (st2 := []) (As := []) (st := []) (v := none) (M1 := (Z, I6, L7)) dX12_behindOne_131 rfl ml_X12_203 mo_X12_whole mi_X12_whole (ci := 12) rfl rfl k_o (Nat.le_of_ble_eq_true rfl) rfl rfl (Nat.le_of_ble_eq_true rfl) hc8 rfl ?_
          refine fr_goto (n := 201) dX12_behindOne_134 (by decide) ?_
          refine fr_aload_n (i := 0) (q := 1) rfl dX12_behindOne_201 rfl ?_
          obtain ⟨I9, L10, hc11, h⟩ := h
          refine fr_callV2 (ν := mu_X12_nextToken) (st2 := []) (As := []) (st := []) (v := none) (M1 := (Z, I9, L10)) dX12_behindOne_202 rfl ml_X12_194 mo_X12_nextToken mi_X12_nextToken (ci := 12) rfl rfl k_o (Nat.le_of_ble_eq_true rfl) rfl rfl (Nat.le_of_ble_eq_true rfl) hc11 rfl ?_
          refine fr_iconst (v := 1) (by decide) dX12_behindOne_205 rfl ?_
          exact fr_zret (by decide) rfl dX12_behindOne_206 h.1 h.2
        · have h := h.2 hc
          refine fr_aload_n (i := 0) (q := 1) rfl dX12_behindOne_123 rfl ?_
          refine fr_bipush (v := 23) (by decide) dX12_behindOne_124 rfl ?_
          refine fr_iconst (v := 0) (by decide) dX12_behindOne_126 rfl ?_
          obtain ⟨I12, L13, hc14, h⟩ := h
          refine fr_callV2 (ν := mu_X12_emit) (st2 := []) (As := [.int 23, .int 0]) (st := []) (v := none) (M1 := (Z, I12, L13)) dX12_behindOne_127 rfl ml_X12_169 mo_X12_emit mi_X12_emit (ci := 12) rfl rfl k_o (Nat.le_of_ble_eq_true rfl) rfl rfl (Nat.le_of_ble_eq_true rfl) hc14 rfl ?_
          refine fr_aload_n (i := 0) (q := 1) rfl dX12_behindOne_130 rfl ?_
          obtain ⟨I15, L16, hc17, h⟩ := h
          refine fr_callV2 (ν := mu_X12_whole) (st2 := []) (As := []) (st := []) (v := none) (M1 := (Z, I15, L16)) dX12_behindOne_131 rfl ml_X12_203 mo_X12_whole mi_X12_whole (ci := 12) rfl rfl k_o (Nat.le_of_ble_eq_true rfl) rfl rfl (Nat.le_of_ble_eq_true rfl) hc17 rfl ?_
          refine fr_goto (n := 201) dX12_behindOne_134 (by decide) ?_
          refine fr_aload_n (i := 0) (q := 1) rfl dX12_behindOne_201 rfl ?_
          obtain ⟨I18, L19, hc20, h⟩ := h
          refine fr_callV2 (ν := mu_X12_nextToken) (st2 := []) (As := []) (st := []) (v := none) (M1 := (Z, I18, L19)) dX12_behindOne_202 rfl ml_X12_194 mo_X12_nextToken mi_X12_nextToken (ci := 12) rfl rfl k_o (Nat.le_of_ble_eq_true rfl) rfl rfl (Nat.le_of_ble_eq_true rfl) hc20 rfl ?_
          refine fr_iconst (v := 1) (by decide) dX12_behindOne_205 rfl ?_
          exact fr_zret (by decide) rfl dX12_behindOne_206 h.1 h.2
      · have h := h.2 hc
        exact fr_sub [1, 3, 0] rfl h
  · have h := h.2 hc
    refine fr_aload_n (i := 0) (q := 1) rfl dX12_behindOne_31 rfl ?_
    refine fr_iload_n (i := 2) (q := 2) rfl dX12_behindOne_32 rfl ?_
    obtain ⟨v21, hc22, h⟩ := h
    refine fr_callS2 (ν := mu_X12_rank) (st2 := [.int v21, rf g o]) (As := [.int u2]) (st := [rf g o]) (v := (some (.int v21))) (M1 := (Z, I, L)) dX12_behindOne_33 rfl ml_X12_166 mo_X12_rank ms_X12_rank (Nat.le_of_ble_eq_true rfl) rfl rfl (Nat.le_of_ble_eq_true rfl) hc22 rfl ?_
    obtain ⟨I23, L24, hc25, h⟩ := h
    refine fr_callV2 (ν := mu_X12_settle) (st2 := []) (As := [.int v21]) (st := []) (v := none) (M1 := (Z, I23, L24)) dX12_behindOne_36 rfl ml_X12_180 mo_X12_settle mi_X12_settle (ci := 12) rfl rfl k_o (Nat.le_of_ble_eq_true rfl) rfl rfl (Nat.le_of_ble_eq_true rfl) hc25 rfl ?_
    refine fr_aload_n (i := 0) (q := 1) rfl dX12_behindOne_39 rfl ?_
    refine fr_iload_n (i := 2) (q := 2) rfl dX12_behindOne_40 rfl ?_
    obtain ⟨I26, L27, hc28, h⟩ := h
    refine fr_callV2 (ν := mu_X12_push) (st2 := []) (As := [.int u2]) (st := []) (v := none) (M1 := (Z, I26, L27)) dX12_behindOne_41 rfl ml_X12_191 mo_X12_push mi_X12_push (ci := 12) rfl rfl k_o (Nat.le_of_ble_eq_true rfl) rfl rfl (Nat.le_of_ble_eq_true rfl) hc28 rfl ?_
    refine fr_aload_n (i := 0) (q := 1) rfl dX12_behindOne_44 rfl ?_
    refine fr_iconst (v := 0) (by decide) dX12_behindOne_45 rfl ?_
    refine fr_putZ (by decide) dX12_behindOne_46 rfl fp_X12_176 k_o ?_
    refine fr_memI (fun I29 hI29 => ?_)
    have h := h I29 hI29
    refine fr_goto (n := 201) dX12_behindOne_49 (by decide) ?_
    refine fr_aload_n (i := 0) (q := 1) rfl dX12_behindOne_201 rfl ?_
    obtain ⟨I30, L31, hc32, h⟩ := h
    refine fr_callV2 (ν := mu_X12_nextToken) (st2 := []) (As := []) (st := []) (v := none) (M1 := (Z, I30, L31)) dX12_behindOne_202 rfl ml_X12_194 mo_X12_nextToken mi_X12_nextToken (ci := 12) rfl rfl k_o (Nat.le_of_ble_eq_true rfl) rfl rfl (Nat.le_of_ble_eq_true rfl) hc32 rfl ?_
    refine fr_iconst (v := 1) (by decide) dX12_behindOne_205 rfl ?_
    exact fr_zret (by decide) rfl dX12_behindOne_206 h.1 h.2
abbrev Lp_X12_behindOne_160 (g : GE) (d : Nat) (o : Nat) (u3 : Int32) (u4 : Int32) (M : Mem) (r : Option Value) (M' : Mem) : Prop := Fr g d mu_X12_behindOne 160 [(0, rf g o), (3, .int u3), (4, .int u4)] [] M r M'
theorem wp_X12_behindOne_68 {g : GE} {Z : Zs} {I : Nat → Nat → Int32} {L : Nat → Nat → Int64} {r : Option Value} {M' : Mem} {o : Nat} {u3 : Int32} {u4 : Int32} {o_pile : Nat} (k_o : KM Z o 12) (r_o_pile : Z.2.1 o 18 = some o_pile) (k_o_pile : KM Z o_pile 13) (h : (∃ (v1 : Int64), Cl g 1 mu_X12_w3 [.int 101, .int 110, .int 100] (Z, I, L) (some (.long v1)) (Z, I, L) ∧ (∃ (v3 : Int32), Cl g 1 mu_X12_isWord [rf g o, .long v1] (Z, I, L) (some (.int v3)) (Z, I, L) ∧ ((v3 = 0 → ((¬ (I o 11) = 63 → Lp_X12_behindOne_160 g 4 o u3 u4 (Z, I, L) r M') ∧ ((I o 11) = 63 → ((¬ u4 = 41 → Lp_X12_behindOne_160 g 4 o u3 u4 (Z, I, L) r M') ∧ (u4 = 41 → (∃ (v5 : Int32), Cl g 2 mu_X12_isCompared [rf g o] (Z, I, L) (some (.int v5)) (Z, I, L) ∧ ((¬ v5 = 0 → (∃ (I7 : Nat → Nat → Int32) (L8 : Nat → Nat → Int64), Cl g 2 mu_X12_settle [rf g o, .int 1] (Z, I, L) none (Z, I7, L8) ∧ (vp_in u3 (Z.2.2.1 o_pile) ∧ (∀ I11 : Nat → Nat → Int32, I11 = rw1 I7 o_pile (upd (I7 o_pile) u3.toNatClampNeg (u4 + 1)) → (∀ I12 : Nat → Nat → Int32, I12 = rw1 I11 o (upd (I11 o) 21 0) → (∃ (I13 : Nat → Nat → Int32) (L14 : Nat → Nat → Int64), Cl g 3 mu_X12_nextToken [rf g o] (Z, I12, L8) none (Z, I13, L14) ∧ (r = some (.int 1) ∧ M' = (Z, I13, L14)))))))) ∧ (v5 = 0 → Lp_X12_behindOne_160 g 4 o u3 u4 (Z, I, L) r M')))))))) ∧ (¬ v3 = 0 → ((¬ u4 = 43 → ((¬ (I o 11) = 63 → Lp_X12_behindOne_160 g 4 o u3 u4 (Z, I, L) r M') ∧ ((I o 11) = 63 → ((¬ u4 = 41 → Lp_X12_behindOne_160 g 4 o u3 u4 (Z, I, L) r M') ∧ (u4 = 41 → (∃ (v16 : Int32), Cl g 2 mu_X12_isCompared [rf g o] (Z, I, L) (some (.int v16)) (Z, I, L) ∧ ((¬ v16 = 0 → (∃ (I18 : Nat → Nat → Int32) (L19 : Nat → Nat → Int64), Cl g 2 mu_X12_settle [rf g o, .int 1] (Z, I, L) none (Z, I18, L19) ∧ (vp_in u3 (Z.2.2.1 o_pile) ∧ (∀ I22 : Nat → Nat → Int32, I22 = rw1 I18 o_pile (upd (I18 o_pile) u3.toNatClampNeg (u4 + 1)) → (∀ I23 : Nat → Nat → Int32, I23 = rw1 I22 o (upd (I22 o) 21 0) → (∃ (I24 : Nat → Nat → Int32) (L25 : Nat → Nat → Int64), Cl g 3 mu_X12_nextToken [rf g o] (Z, I23, L19) none (Z, I24, L25) ∧ (r = some (.int 1) ∧ M' = (Z, I24, L25)))))))) ∧ (v16 = 0 → Lp_X12_behindOne_160 g 4 o u3 u4 (Z, I, L) r M')))))))) ∧ (u4 = 43 → (∃ (I27 : Nat → Nat → Int32) (L28 : Nat → Nat → Int64), Cl g 2 mu_X12_settle [rf g o, .int 1] (Z, I, L) none (Z, I27, L28) ∧ (∀ I30 : Nat → Nat → Int32, I30 = rw1 I27 o (upd (I27 o) 19 ((I27 o 19) - 1)) → (∀ I31 : Nat → Nat → Int32, I31 = rw1 I30 o (upd (I30 o) 20 ((I30 o 20) - 1)) → ((¬ u4 = 43 → (∃ (I32 : Nat → Nat → Int32) (L33 : Nat → Nat → Int64), Cl g 3 mu_X12_whole [rf g o] (Z, I31, L28) none (Z, I32, L33) ∧ (∃ (I35 : Nat → Nat → Int32) (L36 : Nat → Nat → Int64), Cl g 3 mu_X12_nextToken [rf g o] (Z, I32, L33) none (Z, I35, L36) ∧ (r = some (.int 1) ∧ M' = (Z, I35, L36))))) ∧ (u4 = 43 → (∃ (I38 : Nat → Nat → Int32) (L39 : Nat → Nat → Int64), Cl g 1 mu_X12_emit [rf g o, .int 23, .int 0] (Z, I31, L28) none (Z, I38, L39) ∧ (∃ (I41 : Nat → Nat → Int32) (L42 : Nat → Nat → Int64), Cl g 3 mu_X12_whole [rf g o] (Z, I38, L39) none (Z, I41, L42) ∧ (∃ (I44 : Nat → Nat → Int32) (L45 : Nat → Nat → Int64), Cl g 3 mu_X12_nextToken [rf g o] (Z, I41, L42) none (Z, I44, L45) ∧ (r = some (.int 1) ∧ M' = (Z, I44, L45))))))))))))))))) : Lp_X12_behindOne_68 g 4 o u3 u4 (Z, I, L) r M' := by
  refine fr_aload_n (i := 0) (q := 0) rfl dX12_behindOne_68 rfl ?_
  refine fr_bipush (v := 101) (by decide) dX12_behindOne_69 rfl ?_
  refine fr_bipush (v := 110) (by decide) dX12_behindOne_71 rfl ?_
  refine fr_bipush (v := 100) (by decide) dX12_behindOne_73 rfl ?_
  obtain ⟨v1, hc2, h⟩ := h
  refine fr_callS2 (ν := mu_X12_w3) (st2 := [.long v1, rf g o]) (As := [.int 101, .int 110, .int 100]) (st := [rf g o]) (v := (some (.long v1))) (M1 := (Z, I, L)) dX12_behindOne_75 rfl ml_X12_149 mo_X12_w3 ms_X12_w3 (Nat.le_of_ble_eq_true rfl) rfl rfl (Nat.le_of_ble_eq_true rfl) hc2 rfl ?_
  obtain ⟨v3, hc4, h⟩ := h
  refine fr_callV2 (ν := mu_X12_isWord) (st2 := [.int v3]) (As := [.long v1]) (st := []) (v := (some (.int v3))) (M1 := (Z, I, L)) dX12_behindOne_78 rfl ml_X12_211 mo_X12_isWord mi_X12_isWord (ci := 12) rfl rfl k_o (Nat.le_of_ble_eq_true rfl) rfl rfl (Nat.le_of_ble_eq_true rfl) hc4 rfl ?_
  refine fr_if_eq (tgt := 137) dX12_behindOne_81 (by decide) rfl (fun hc => ?_) (fun hc => ?_)
  · have h := h.1 hc
    refine fr_aload_n (i := 0) (q := 0) rfl dX12_behindOne_137 rfl ?_
    refine fr_getI dX12_behindOne_138 rfl fl_X12_132 k_o ?_
    refine fr_bipush (v := 63) (by decide) dX12_behindOne_141 rfl ?_
    refine fr_icmp_ne (tgt := 160) dX12_behindOne_143 (by decide) rfl (fun hc => ?_) (fun hc => ?_)
    · have h := h.1 hc
      exact fr_sub [0, 1, 2] rfl h
    · have h := h.2 hc
      refine fr_iload (q := 2) rfl dX12_behindOne_146 rfl ?_
      refine fr_bipush (v := 41) (by decide) dX12_behindOne_148 rfl ?_
      refine fr_icmp_ne (tgt := 160) dX12_behindOne_150 (by decide) rfl (fun hc => ?_) (fun hc => ?_)
      · have h := h.1 hc
        exact fr_sub [0, 1, 2] rfl h
      · have h := h.2 hc
        refine fr_aload_n (i := 0) (q := 0) rfl dX12_behindOne_153 rfl ?_
        obtain ⟨v5, hc6, h⟩ := h
        refine fr_callV2 (ν := mu_X12_isCompared) (st2 := [.int v5]) (As := []) (st := []) (v := (some (.int v5))) (M1 := (Z, I, L)) dX12_behindOne_154 rfl ml_X12_219 mo_X12_isCompared mi_X12_isCompared (ci := 12) rfl rfl k_o (Nat.le_of_ble_eq_true rfl) rfl rfl (Nat.le_of_ble_eq_true rfl) hc6 rfl ?_
        refine fr_if_ne (tgt := 176) dX12_behindOne_157 (by decide) rfl (fun hc => ?_) (fun hc => ?_)
        · have h := h.1 hc
          refine fr_aload_n (i := 0) (q := 0) rfl dX12_behindOne_176 rfl ?_
          refine fr_iconst (v := 1) (by decide) dX12_behindOne_177 rfl ?_
          obtain ⟨I7, L8, hc9, h⟩ := h
          refine fr_callV2 (ν := mu_X12_settle) (st2 := []) (As := [.int 1]) (st := []) (v := none) (M1 := (Z, I7, L8)) dX12_behindOne_178 rfl ml_X12_180 mo_X12_settle mi_X12_settle (ci := 12) rfl rfl k_o (Nat.le_of_ble_eq_true rfl) rfl rfl (Nat.le_of_ble_eq_true rfl) hc9 rfl ?_
          refine fr_aload_n (i := 0) (q := 0) rfl dX12_behindOne_181 rfl ?_
          refine fr_getR dX12_behindOne_182 rfl fl_X12_29 k_o r_o_pile ?_
          refine fr_iload_n (i := 3) (q := 1) rfl dX12_behindOne_185 rfl ?_
          refine fr_iload (q := 2) rfl dX12_behindOne_186 rfl ?_
          refine fr_iconst (v := 1) (by decide) dX12_behindOne_188 rfl ?_
          refine fr_iadd dX12_behindOne_189 rfl ?_
          obtain ⟨hz10, h⟩ := h
          refine fr_iast dX12_behindOne_190 rfl k_o_pile hz10 ?_
          refine fr_memI (fun I11 hI11 => ?_)
          have h := h I11 hI11
          refine fr_aload_n (i := 0) (q := 0) rfl dX12_behindOne_191 rfl ?_
          refine fr_iconst (v := 0) (by decide) dX12_behindOne_192 rfl ?_
          refine fr_putZ (by decide) dX12_behindOne_193 rfl fp_X12_176 k_o ?_
          refine fr_memI (fun I12 hI12 => ?_)
          have h := h I12 hI12
          refine fr_goto (n := 201) dX12_behindOne_196 (by decide) ?_
          refine fr_aload_n (i := 0) (q := 0) rfl dX12_behindOne_201 rfl ?_
          obtain ⟨I13, L14, hc15, h⟩ := h
          refine fr_callV2 (ν := mu_X12_nextToken) (st2 := []) (As := []) (st := []) (v := none) (M1 := (Z, I13, L14)) dX12_behindOne_202 rfl ml_X12_194 mo_X12_nextToken mi_X12_nextToken (ci := 12) rfl rfl k_o (Nat.le_of_ble_eq_true rfl) rfl rfl (Nat.le_of_ble_eq_true rfl) hc15 rfl ?_
          refine fr_iconst (v := 1) (by decide) dX12_behindOne_205 rfl ?_
          exact fr_zret (by decide) rfl dX12_behindOne_206 h.1 h.2
        · have h := h.2 hc
          exact fr_sub [0, 1, 2] rfl h
  · have h := h.2 hc
    refine fr_iload (q := 2) rfl dX12_behindOne_84 rfl ?_
    refine fr_bipush (v := 43) (by decide) dX12_behindOne_86 rfl ?_
    refine fr_icmp_ne (tgt := 137) dX12_behindOne_88 (by decide) rfl (fun hc => ?_) (fun hc => ?_)
    · have h := h.1 hc
      refine fr_aload_n (i := 0) (q := 0) rfl dX12_behindOne_137 rfl ?_
      refine fr_getI dX12_behindOne_138 rfl fl_X12_132 k_o ?_
      refine fr_bipush (v := 63) (by decide) dX12_behindOne_141 rfl ?_
      refine fr_icmp_ne (tgt := 160) dX12_behindOne_143 (by decide) rfl (fun hc => ?_) (fun hc => ?_)
      · have h := h.1 hc
        exact fr_sub [0, 1, 2] rfl h
      · have h := h.2 hc
        refine fr_iload (q := 2) rfl dX12_behindOne_146 rfl ?_
        refine fr_bipush (v := 41) (by decide) dX12_behindOne_148 rfl ?_
        refine fr_icmp_ne (tgt := 160) dX12_behindOne_150 (by decide) rfl (fun hc => ?_) (fun hc => ?_)
        · have h := h.1 hc
          exact fr_sub [0, 1, 2] rfl h
        · have h := h.2 hc
          refine fr_aload_n (i := 0) (q := 0) rfl dX12_behindOne_153 rfl ?_
          obtain ⟨v16, hc17, h⟩ := h
          refine fr_callV2 (ν := mu_X12_isCompared) (st2 := [.int v16]) (As := []) (st := []) (v := (some (.int v16))) (M1 := (Z, I, L)) dX12_behindOne_154 rfl ml_X12_219 mo_X12_isCompared mi_X12_isCompared (ci := 12) rfl rfl k_o (Nat.le_of_ble_eq_true rfl) rfl rfl (Nat.le_of_ble_eq_true rfl) hc17 rfl ?_
          refine fr_if_ne (tgt := 176) dX12_behindOne_157 (by decide) rfl (fun hc => ?_) (fun hc => ?_)
          · have h := h.1 hc
            refine fr_aload_n (i := 0) (q := 0) rfl dX12_behindOne_176 rfl ?_
            refine fr_iconst (v := 1) (by decide) dX12_behindOne_177 rfl ?_
            obtain ⟨I18, L19, hc20, h⟩ := h
            refine fr_callV2 (ν := mu_X12_settle) (st2 := []) (As := [.int 1]) (st := []) (v := none) (M1 := (Z, I18, L19)) dX12_behindOne_178 rfl ml_X12_180 mo_X12_settle mi_X12_settle (ci := 12) rfl rfl k_o (Nat.le_of_ble_eq_true rfl) rfl rfl (Nat.le_of_ble_eq_true rfl) hc20 rfl ?_
            refine fr_aload_n (i := 0) (q := 0) rfl dX12_behindOne_181 rfl ?_
            refine fr_getR dX12_behindOne_182 rfl fl_X12_29 k_o r_o_pile ?_
            refine fr_iload_n (i := 3) (q := 1) rfl dX12_behindOne_185 rfl ?_
            refine fr_iload (q := 2) rfl dX12_behindOne_186 rfl ?_
            refine fr_iconst (v := 1) (by decide) dX12_behindOne_188 rfl ?_
            refine fr_iadd dX12_behindOne_189 rfl ?_
            obtain ⟨hz21, h⟩ := h
            refine fr_iast dX12_behindOne_190 rfl k_o_pile hz21 ?_
            refine fr_memI (fun I22 hI22 => ?_)
            have h := h I22 hI22
            refine fr_aload_n (i := 0) (q := 0) rfl dX12_behindOne_191 rfl ?_
            refine fr_iconst (v := 0) (by decide) dX12_behindOne_192 rfl ?_
            refine fr_putZ (by decide) dX12_behindOne_193 rfl fp_X12_176 k_o ?_
            refine fr_memI (fun I23 hI23 => ?_)
            have h := h I23 hI23
            refine fr_goto (n := 201) dX12_behindOne_196 (by decide) ?_
            refine fr_aload_n (i := 0) (q := 0) rfl dX12_behindOne_201 rfl ?_
            obtain ⟨I24, L25, hc26, h⟩ := h
            refine fr_callV2 (ν := mu_X12_nextToken) (st2 := []) (As := []) (st := []) (v := none) (M1 := (Z, I24, L25)) dX12_behindOne_202 rfl ml_X12_194 mo_X12_nextToken mi_X12_nextToken (ci := 12) rfl rfl k_o (Nat.le_of_ble_eq_true rfl) rfl rfl (Nat.le_of_ble_eq_true rfl) hc26 rfl ?_
            refine fr_iconst (v := 1) (by decide) dX12_behindOne_205 rfl ?_
            exact fr_zret (by decide) rfl dX12_behindOne_206 h.1 h.2
          · have h := h.2 hc
            exact fr_sub [0, 1, 2] rfl h
    · have h := h.2 hc
      refine fr_aload_n (i := 0) (q := 0) rfl dX12_behindOne_91 rfl ?_
      refine fr_iconst (v := 1) (by decide) dX12_behindOne_92 rfl ?_
      obtain ⟨I27, L28, hc29, h⟩ := h
      refine fr_callV2 (ν := mu_X12_settle) (st2 := []) (As := [.int 1]) (st := []) (v := none) (M1 := (Z, I27, L28)) dX12_behindOne_93 rfl ml_X12_180 mo_X12_settle mi_X12_settle (ci := 12) rfl rfl k_o (Nat.le_of_ble_eq_true rfl) rfl rfl (Nat.le_of_ble_eq_true rfl) hc29 rfl ?_
      refine fr_aload_n (i := 0) (q := 0) rfl dX12_behindOne_96 rfl ?_
      refine fr_dup rfl dX12_behindOne_97 rfl ?_
      refine fr_getI dX12_behindOne_98 rfl fl_X12_163 k_o ?_
      refine fr_iconst (v := 1) (by decide) dX12_behindOne_101 rfl ?_
      refine fr_isub dX12_behindOne_102 rfl ?_
      refine fr_putI dX12_behindOne_103 rfl fp_X12_163 k_o ?_
      refine fr_memI (fun I30 hI30 => ?_)
      have h := h I30 hI30
      refine fr_aload_n (i := 0) (q := 0) rfl dX12_behindOne_106 rfl ?_
      refine fr_dup rfl dX12_behindOne_107 rfl ?_
      refine fr_getI dX12_behindOne_108 rfl fl_X12_173 k_o ?_
      refine fr_iconst (v := 1) (by decide) dX12_behindOne_111 rfl ?_
      refine fr_isub dX12_behindOne_112 rfl ?_
      refine fr_putI dX12_behindOne_113 rfl fp_X12_173 k_o ?_
      refine fr_memI (fun I31 hI31 => ?_)
      have h := h I31 hI31
      refine fr_iload (q := 2) rfl dX12_behindOne_116 rfl ?_
      refine fr_bipush (v := 43) (by decide) dX12_behindOne_118 rfl ?_
      refine fr_icmp_ne (tgt := 130) dX12_behindOne_120 (by decide) rfl (fun hc => ?_) (fun hc => ?_)
      · have h := h.1 hc
        refine fr_aload_n (i := 0) (q := 0) rfl dX12_behindOne_130 rfl ?_
        obtain ⟨I32, L33, hc34, h⟩ := h
        refine fr_callV2 (ν := mu_X12_whole) (st2 := []) (As := []) (st := []) (v := none) (M1 := (Z, I32, L33)) dX12_behindOne_131 rfl ml_X12_203 mo_X12_whole mi_X12_whole (ci := 12) rfl rfl k_o (Nat.le_of_ble_eq_true rfl) rfl rfl (Nat.le_of_ble_eq_true rfl) hc34 rfl ?_
        refine fr_goto (n := 201) dX12_behindOne_134 (by decide) ?_
        refine fr_aload_n (i := 0) (q := 0) rfl dX12_behindOne_201 rfl ?_
        obtain ⟨I35, L36, hc37, h⟩ := h
        refine fr_callV2 (ν := mu_X12_nextToken) (st2 := []) (As := []) (st := []) (v := none) (M1 := (Z, I35, L36)) dX12_behindOne_202 rfl ml_X12_194 mo_X12_nextToken mi_X12_nextToken (ci := 12) rfl rfl k_o (Nat.le_of_ble_eq_true rfl) rfl rfl (Nat.le_of_ble_eq_true rfl) hc37 rfl ?_
        refine fr_iconst (v := 1) (by decide) dX12_behindOne_205 rfl ?_
        exact fr_zret (by decide) rfl dX12_behindOne_206 h.1 h.2
      · have h := h.2 hc
        refine fr_aload_n (i := 0) (q := 0) rfl dX12_behindOne_123 rfl ?_
        refine fr_bipush (v := 23) (by decide) dX12_behindOne_124 rfl ?_
        refine fr_iconst (v := 0) (by decide) dX12_behindOne_126 rfl ?_
        obtain ⟨I38, L39, hc40, h⟩ := h
        refine fr_callV2 (ν := mu_X12_emit) (st2 := []) (As := [.int 23, .int 0]) (st := []) (v := none) (M1 := (Z, I38, L39)) dX12_behindOne_127 rfl ml_X12_169 mo_X12_emit mi_X12_emit (ci := 12) rfl rfl k_o (Nat.le_of_ble_eq_true rfl) rfl rfl (Nat.le_of_ble_eq_true rfl) hc40 rfl ?_
        refine fr_aload_n (i := 0) (q := 0) rfl dX12_behindOne_130 rfl ?_
        obtain ⟨I41, L42, hc43, h⟩ := h
        refine fr_callV2 (ν := mu_X12_whole) (st2 := []) (As := []) (st := []) (v := none) (M1 := (Z, I41, L42)) dX12_behindOne_131 rfl ml_X12_203 mo_X12_whole mi_X12_whole (ci := 12) rfl rfl k_o (Nat.le_of_ble_eq_true rfl) rfl rfl (Nat.le_of_ble_eq_true rfl) hc43 rfl ?_
        refine fr_goto (n := 201) dX12_behindOne_134 (by decide) ?_
        refine fr_aload_n (i := 0) (q := 0) rfl dX12_behindOne_201 rfl ?_
        obtain ⟨I44, L45, hc46, h⟩ := h
        refine fr_callV2 (ν := mu_X12_nextToken) (st2 := []) (As := []) (st := []) (v := none) (M1 := (Z, I44, L45)) dX12_behindOne_202 rfl ml_X12_194 mo_X12_nextToken mi_X12_nextToken (ci := 12) rfl rfl k_o (Nat.le_of_ble_eq_true rfl) rfl rfl (Nat.le_of_ble_eq_true rfl) hc46 rfl ?_
        refine fr_iconst (v := 1) (by decide) dX12_behindOne_205 rfl ?_
        exact fr_zret (by decide) rfl dX12_behindOne_206 h.1 h.2
theorem wp_X12_behindOne_160 {g : GE} {Z : Zs} {I : Nat → Nat → Int32} {L : Nat → Nat → Int64} {r : Option Value} {M' : Mem} {o : Nat} {u3 : Int32} {u4 : Int32} {o_pile : Nat} (k_o : KM Z o 12) (r_o_pile : Z.2.1 o 18 = some o_pile) (k_o_pile : KM Z o_pile 13) (h : ((¬ (I o 11) = 58 → (r = some (.int 0) ∧ M' = (Z, I, L))) ∧ ((I o 11) = 58 → ((¬ u4 = 42 → (r = some (.int 0) ∧ M' = (Z, I, L))) ∧ (u4 = 42 → (∃ (I1 : Nat → Nat → Int32) (L2 : Nat → Nat → Int64), Cl g 2 mu_X12_settle [rf g o, .int 1] (Z, I, L) none (Z, I1, L2) ∧ (vp_in u3 (Z.2.2.1 o_pile) ∧ (∀ I5 : Nat → Nat → Int32, I5 = rw1 I1 o_pile (upd (I1 o_pile) u3.toNatClampNeg (u4 + 1)) → (∀ I6 : Nat → Nat → Int32, I6 = rw1 I5 o (upd (I5 o) 21 0) → (∃ (I7 : Nat → Nat → Int32) (L8 : Nat → Nat → Int64), Cl g 3 mu_X12_nextToken [rf g o] (Z, I6, L2) none (Z, I7, L8) ∧ (r = some (.int 1) ∧ M' = (Z, I7, L8)))))))))))) : Lp_X12_behindOne_160 g 4 o u3 u4 (Z, I, L) r M' := by
  refine fr_aload_n (i := 0) (q := 0) rfl dX12_behindOne_160 rfl ?_
  refine fr_getI dX12_behindOne_161 rfl fl_X12_132 k_o ?_
  refine fr_bipush (v := 58) (by decide) dX12_behindOne_164 rfl ?_
  refine fr_icmp_ne (tgt := 199) dX12_behindOne_166 (by decide) rfl (fun hc => ?_) (fun hc => ?_)
  · have h := h.1 hc
    refine fr_iconst (v := 0) (by decide) dX12_behindOne_199 rfl ?_
    exact fr_zret (by decide) rfl dX12_behindOne_200 h.1 h.2
  · have h := h.2 hc
    refine fr_iload (q := 2) rfl dX12_behindOne_169 rfl ?_
    refine fr_bipush (v := 42) (by decide) dX12_behindOne_171 rfl ?_
    refine fr_icmp_ne (tgt := 199) dX12_behindOne_173 (by decide) rfl (fun hc => ?_) (fun hc => ?_)
    · have h := h.1 hc
      refine fr_iconst (v := 0) (by decide) dX12_behindOne_199 rfl ?_
      exact fr_zret (by decide) rfl dX12_behindOne_200 h.1 h.2
    · have h := h.2 hc
      refine fr_aload_n (i := 0) (q := 0) rfl dX12_behindOne_176 rfl ?_
      refine fr_iconst (v := 1) (by decide) dX12_behindOne_177 rfl ?_
      obtain ⟨I1, L2, hc3, h⟩ := h
      refine fr_callV2 (ν := mu_X12_settle) (st2 := []) (As := [.int 1]) (st := []) (v := none) (M1 := (Z, I1, L2)) dX12_behindOne_178 rfl ml_X12_180 mo_X12_settle mi_X12_settle (ci := 12) rfl rfl k_o (Nat.le_of_ble_eq_true rfl) rfl rfl (Nat.le_of_ble_eq_true rfl) hc3 rfl ?_
      refine fr_aload_n (i := 0) (q := 0) rfl dX12_behindOne_181 rfl ?_
      refine fr_getR dX12_behindOne_182 rfl fl_X12_29 k_o r_o_pile ?_
      refine fr_iload_n (i := 3) (q := 1) rfl dX12_behindOne_185 rfl ?_
      refine fr_iload (q := 2) rfl dX12_behindOne_186 rfl ?_
      refine fr_iconst (v := 1) (by decide) dX12_behindOne_188 rfl ?_
      refine fr_iadd dX12_behindOne_189 rfl ?_
      obtain ⟨hz4, h⟩ := h
      refine fr_iast dX12_behindOne_190 rfl k_o_pile hz4 ?_
      refine fr_memI (fun I5 hI5 => ?_)
      have h := h I5 hI5
      refine fr_aload_n (i := 0) (q := 0) rfl dX12_behindOne_191 rfl ?_
      refine fr_iconst (v := 0) (by decide) dX12_behindOne_192 rfl ?_
      refine fr_putZ (by decide) dX12_behindOne_193 rfl fp_X12_176 k_o ?_
      refine fr_memI (fun I6 hI6 => ?_)
      have h := h I6 hI6
      refine fr_goto (n := 201) dX12_behindOne_196 (by decide) ?_
      refine fr_aload_n (i := 0) (q := 0) rfl dX12_behindOne_201 rfl ?_
      obtain ⟨I7, L8, hc9, h⟩ := h
      refine fr_callV2 (ν := mu_X12_nextToken) (st2 := []) (As := []) (st := []) (v := none) (M1 := (Z, I7, L8)) dX12_behindOne_202 rfl ml_X12_194 mo_X12_nextToken mi_X12_nextToken (ci := 12) rfl rfl k_o (Nat.le_of_ble_eq_true rfl) rfl rfl (Nat.le_of_ble_eq_true rfl) hc9 rfl ?_
      refine fr_iconst (v := 1) (by decide) dX12_behindOne_205 rfl ?_
      exact fr_zret (by decide) rfl dX12_behindOne_206 h.1 h.2
abbrev Lp_X12_parsed_12 (g : GE) (d : Nat) (o : Nat) (u1 : Int32) (u2 : Int32) (M : Mem) (r : Option Value) (M' : Mem) : Prop := Fr g d mu_X12_parsed 12 [(0, rf g o), (1, .int u1), (2, .int u2)] [] M r M'
theorem cp_X12_parsed {g : GE} {Z : Zs} {I : Nat → Nat → Int32} {L : Nat → Nat → Int64} {r : Option Value} {M' : Mem} {o : Nat} {x1 : Int32} (k_o : KM Z o 12) (h : (∀ I1 : Nat → Nat → Int32, I1 = rw1 I o (upd (I o) 19 0) → (∀ I2 : Nat → Nat → Int32, I2 = rw1 I1 o (upd (I1 o) 21 0) → Lp_X12_parsed_12 g 6 o x1 1 (Z, I2, L) r M'))) : Cl g 6 mu_X12_parsed [rf g o, .int x1] (Z, I, L) r M' := by
  refine cl_of (lv := [(0, rf g o), (1, .int x1)]) (by decide) (Nat.le_of_ble_eq_true rfl) rfl ?_
  refine fr_aload_n (i := 0) (q := 0) rfl dX12_parsed_0 rfl ?_
  refine fr_iconst (v := 0) (by decide) dX12_parsed_1 rfl ?_
  refine fr_putI dX12_parsed_2 rfl fp_X12_163 k_o ?_
  refine fr_memI (fun I1 hI1 => ?_)
  have h := h I1 hI1
  refine fr_aload_n (i := 0) (q := 0) rfl dX12_parsed_5 rfl ?_
  refine fr_iconst (v := 0) (by decide) dX12_parsed_6 rfl ?_
  refine fr_putZ (by decide) dX12_parsed_7 rfl fp_X12_176 k_o ?_
  refine fr_memI (fun I2 hI2 => ?_)
  have h := h I2 hI2
  refine fr_iconst (v := 1) (by decide) dX12_parsed_10 rfl ?_
  refine fr_istore_n (i := 2) (lv' := [(2, .int 1), (0, rf g o), (1, .int x1)]) dX12_parsed_11 rfl (by decide) rfl ?_
  exact fr_sub [1, 2, 0] rfl h
theorem wp_X12_parsed_12 {g : GE} {Z : Zs} {I : Nat → Nat → Int32} {L : Nat → Nat → Int64} {r : Option Value} {M' : Mem} {o : Nat} {u1 : Int32} {u2 : Int32} (k_o : KM Z o 12) (h : ((u2 = 0 → (∃ (v1 : Int32), Cl g 1 mu_X12_marker [rf g o] (Z, I, L) (some (.int v1)) (Z, I, L) ∧ ((0 ≤ v1 → (r = some (.int 1) ∧ M' = (Z, I, L))) ∧ (¬ 0 ≤ v1 → ((u1 = 0 → (∃ (I3 : Nat → Nat → Int32) (L4 : Nat → Nat → Int64), Cl g 2 mu_X12_settle [rf g o, .int 1] (Z, I, L) none (Z, I3, L4) ∧ (r = some (.int 0) ∧ M' = (Z, I3, L4)))) ∧ (¬ u1 = 0 → (∃ (v6 : Int32), Cl g 2 mu_X12_isCompared [rf g o] (Z, I, L) (some (.int v6)) (Z, I, L) ∧ ((¬ v6 = 0 → (∃ (I8 : Nat → Nat → Int32) (L9 : Nat → Nat → Int64), Cl g 2 mu_X12_settle [rf g o, .int 1] (Z, I, L) none (Z, I8, L9) ∧ (r = some (.int 0) ∧ M' = (Z, I8, L9)))) ∧ (v6 = 0 → (r = some (.int 1) ∧ M' = (Z, I, L))))))))))) ∧ (¬ u2 = 0 → (((I o 21) = 0 → (∃ (v11 : Int32) (I12 : Nat → Nat → Int32) (L13 : Nat → Nat → Int64), Cl g 5 mu_X12_beginOne [rf g o, .int u1] (Z, I, L) (some (.int v11)) (Z, I12, L13) ∧ ((v11 = 0 → Lp_X12_parsed_12 g 6 o u1 u2 (Z, I12, L13) r M') ∧ (¬ v11 = 0 → (r = some (.int v11) ∧ M' = (Z, I12, L13)))))) ∧ (¬ (I o 21) = 0 → (∃ (v15 : Int32) (I16 : Nat → Nat → Int32) (L17 : Nat → Nat → Int64), Cl g 4 mu_X12_behindOne [rf g o, .int u1] (Z, I, L) (some (.int v15)) (Z, I16, L17) ∧ Lp_X12_parsed_12 g 6 o u1 v15 (Z, I16, L17) r M')))))) : Lp_X12_parsed_12 g 6 o u1 u2 (Z, I, L) r M' := by
  refine fr_iload_n (i := 2) (q := 2) rfl dX12_parsed_12 rfl ?_
  refine fr_if_eq (tgt := 47) dX12_parsed_13 (by decide) rfl (fun hc => ?_) (fun hc => ?_)
  · have h := h.1 hc
    refine fr_aload_n (i := 0) (q := 0) rfl dX12_parsed_47 rfl ?_
    obtain ⟨v1, hc2, h⟩ := h
    refine fr_callV2 (ν := mu_X12_marker) (st2 := [.int v1]) (As := []) (st := []) (v := (some (.int v1))) (M1 := (Z, I, L)) dX12_parsed_48 rfl ml_X12_183 mo_X12_marker mi_X12_marker (ci := 12) rfl rfl k_o (Nat.le_of_ble_eq_true rfl) rfl rfl (Nat.le_of_ble_eq_true rfl) hc2 rfl ?_
    refine fr_if_ge (tgt := 65) dX12_parsed_51 (by decide) rfl (fun hc => ?_) (fun hc => ?_)
    · have h := h.1 hc
      refine fr_iconst (v := 1) (by decide) dX12_parsed_65 rfl ?_
      exact fr_iret rfl dX12_parsed_66 h.1 h.2
    · have h := h.2 hc
      refine fr_iload_n (i := 1) (q := 1) rfl dX12_parsed_54 rfl ?_
      refine fr_if_eq (tgt := 67) dX12_parsed_55 (by decide) rfl (fun hc => ?_) (fun hc => ?_)
      · have h := h.1 hc
        refine fr_aload_n (i := 0) (q := 0) rfl dX12_parsed_67 rfl ?_
        refine fr_iconst (v := 1) (by decide) dX12_parsed_68 rfl ?_
        obtain ⟨I3, L4, hc5, h⟩ := h
        refine fr_callV2 (ν := mu_X12_settle) (st2 := []) (As := [.int 1]) (st := []) (v := none) (M1 := (Z, I3, L4)) dX12_parsed_69 rfl ml_X12_180 mo_X12_settle mi_X12_settle (ci := 12) rfl rfl k_o (Nat.le_of_ble_eq_true rfl) rfl rfl (Nat.le_of_ble_eq_true rfl) hc5 rfl ?_
        refine fr_iconst (v := 0) (by decide) dX12_parsed_72 rfl ?_
        exact fr_iret rfl dX12_parsed_73 h.1 h.2
      · have h := h.2 hc
        refine fr_aload_n (i := 0) (q := 0) rfl dX12_parsed_58 rfl ?_
        obtain ⟨v6, hc7, h⟩ := h
        refine fr_callV2 (ν := mu_X12_isCompared) (st2 := [.int v6]) (As := []) (st := []) (v := (some (.int v6))) (M1 := (Z, I, L)) dX12_parsed_59 rfl ml_X12_219 mo_X12_isCompared mi_X12_isCompared (ci := 12) rfl rfl k_o (Nat.le_of_ble_eq_true rfl) rfl rfl (Nat.le_of_ble_eq_true rfl) hc7 rfl ?_
        refine fr_if_ne (tgt := 67) dX12_parsed_62 (by decide) rfl (fun hc => ?_) (fun hc => ?_)
        · have h := h.1 hc
          refine fr_aload_n (i := 0) (q := 0) rfl dX12_parsed_67 rfl ?_
          refine fr_iconst (v := 1) (by decide) dX12_parsed_68 rfl ?_
          obtain ⟨I8, L9, hc10, h⟩ := h
          refine fr_callV2 (ν := mu_X12_settle) (st2 := []) (As := [.int 1]) (st := []) (v := none) (M1 := (Z, I8, L9)) dX12_parsed_69 rfl ml_X12_180 mo_X12_settle mi_X12_settle (ci := 12) rfl rfl k_o (Nat.le_of_ble_eq_true rfl) rfl rfl (Nat.le_of_ble_eq_true rfl) hc10 rfl ?_
          refine fr_iconst (v := 0) (by decide) dX12_parsed_72 rfl ?_
          exact fr_iret rfl dX12_parsed_73 h.1 h.2
        · have h := h.2 hc
          refine fr_iconst (v := 1) (by decide) dX12_parsed_65 rfl ?_
          exact fr_iret rfl dX12_parsed_66 h.1 h.2
  · have h := h.2 hc
    refine fr_aload_n (i := 0) (q := 0) rfl dX12_parsed_16 rfl ?_
    refine fr_getI dX12_parsed_17 rfl fl_X12_176 k_o ?_
    refine fr_if_eq (tgt := 32) dX12_parsed_20 (by decide) rfl (fun hc => ?_) (fun hc => ?_)
    · have h := h.1 hc
      refine fr_aload_n (i := 0) (q := 0) rfl dX12_parsed_32 rfl ?_
      refine fr_iload_n (i := 1) (q := 1) rfl dX12_parsed_33 rfl ?_
      obtain ⟨v11, I12, L13, hc14, h⟩ := h
      refine fr_callV2 (ν := mu_X12_beginOne) (st2 := [.int v11]) (As := [.int u1]) (st := []) (v := (some (.int v11))) (M1 := (Z, I12, L13)) dX12_parsed_34 rfl ml_X12_234 mo_X12_beginOne mi_X12_beginOne (ci := 12) rfl rfl k_o (Nat.le_of_ble_eq_true rfl) rfl rfl (Nat.le_of_ble_eq_true rfl) hc14 rfl ?_
      refine fr_istore_n (i := 3) (lv' := [(3, .int v11), (0, rf g o), (1, .int u1), (2, .int u2)]) dX12_parsed_37 rfl (by decide) rfl ?_
      refine fr_iload_n (i := 3) (q := 0) rfl dX12_parsed_38 rfl ?_
      refine fr_if_eq (tgt := 44) dX12_parsed_39 (by decide) rfl (fun hc => ?_) (fun hc => ?_)
      · have h := h.1 hc
        refine fr_goto (n := 12) dX12_parsed_44 (by decide) ?_
        exact fr_sub [1, 2, 3] rfl h
      · have h := h.2 hc
        refine fr_iload_n (i := 3) (q := 0) rfl dX12_parsed_42 rfl ?_
        exact fr_iret rfl dX12_parsed_43 h.1 h.2
    · have h := h.2 hc
      refine fr_aload_n (i := 0) (q := 0) rfl dX12_parsed_23 rfl ?_
      refine fr_iload_n (i := 1) (q := 1) rfl dX12_parsed_24 rfl ?_
      obtain ⟨v15, I16, L17, hc18, h⟩ := h
      refine fr_callV2 (ν := mu_X12_behindOne) (st2 := [.int v15]) (As := [.int u1]) (st := []) (v := (some (.int v15))) (M1 := (Z, I16, L17)) dX12_parsed_25 rfl ml_X12_231 mo_X12_behindOne mi_X12_behindOne (ci := 12) rfl rfl k_o (Nat.le_of_ble_eq_true rfl) rfl rfl (Nat.le_of_ble_eq_true rfl) hc18 rfl ?_
      refine fr_istore_n (i := 2) (lv' := [(2, .int v15), (0, rf g o), (1, .int u1)]) dX12_parsed_28 rfl (by decide) rfl ?_
      refine fr_goto (n := 12) dX12_parsed_29 (by decide) ?_
      exact fr_sub [1, 2, 0] rfl h
theorem cp_X12_nameOf {g : GE} {Z : Zs} {I : Nat → Nat → Int32} {L : Nat → Nat → Int64} {r : Option Value} {M' : Mem} {o : Nat} (k_o : KM Z o 12) (h : (((I o 11) = 2 → (∃ (v1 : Int64), Cl g 1 mu_X12_w3 [.int 116, .int 97, .int 112] (Z, I, L) (some (.long v1)) (Z, I, L) ∧ ((¬ (lg_cmp (L o 13) v1) = 0 → (∃ (v3 : Int64), Cl g 1 mu_X12_w3 [.int 104, .int 101, .int 97] (Z, I, L) (some (.long v3)) (Z, I, L) ∧ (∃ (v5 : Int64), Cl g 2 mu_X12_w4 [.int 100, .int 105, .int 110, .int 103] (Z, I, L) (some (.long v5)) (Z, I, L) ∧ ((¬ (lg_cmp (L o 13) ((v3 <<< ((32 : Int32).toInt64 &&& 63)) ||| v5)) = 0 → ((¬ (lg_cmp (L o 13) 120) = 0 → ((¬ (lg_cmp (L o 13) 121) = 0 → (∃ (v7 : Int64), Cl g 2 mu_X12_w4 [.int 104, .int 101, .int 114, .int 101] (Z, I, L) (some (.long v7)) (Z, I, L) ∧ ((¬ (lg_cmp (L o 13) v7) = 0 → (∃ (v9 : Int64), Cl g 2 mu_X12_w5 [.int 97, .int 104, .int 101, .int 97, .int 100] (Z, I, L) (some (.long v9)) (Z, I, L) ∧ ((¬ (lg_cmp (L o 13) v9) = 0 → (∃ (v11 : Int64), Cl g 2 mu_X12_w5 [.int 114, .int 105, .int 100, .int 101, .int 114] (Z, I, L) (some (.long v11)) (Z, I, L) ∧ ((¬ (lg_cmp (L o 13) v11) = 0 → (∃ (v13 : Int64), Cl g 1 mu_X12_w3 [.int 99, .int 97, .int 114] (Z, I, L) (some (.long v13)) (Z, I, L) ∧ (∃ (v15 : Int64), Cl g 2 mu_X12_w4 [.int 114, .int 105, .int 101, .int 114] (Z, I, L) (some (.long v15)) (Z, I, L) ∧ ((¬ (lg_cmp (L o 13) ((v13 <<< ((32 : Int32).toInt64 &&& 63)) ||| v15)) = 0 → (∃ (v17 : Int64), Cl g 2 mu_X12_w5 [.int 115, .int 105, .int 103, .int 104, .int 116] (Z, I, L) (some (.long v17)) (Z, I, L) ∧ ((¬ (lg_cmp (L o 13) v17) = 0 → (∃ (v19 : Int64), Cl g 2 mu_X12_w4 [.int 112, .int 97, .int 99, .int 101] (Z, I, L) (some (.long v19)) (Z, I, L) ∧ ((¬ (lg_cmp (L o 13) v19) = 0 → (∃ (v21 : Int64), Cl g 2 mu_X12_w4 [.int 97, .int 115, .int 107, .int 115] (Z, I, L) (some (.long v21)) (Z, I, L) ∧ ((¬ (lg_cmp (L o 13) v21) = 0 → (r = some (.int ((-1))) ∧ M' = (Z, I, L))) ∧ ((lg_cmp (L o 13) v21) = 0 → (r = some (.int 10) ∧ M' = (Z, I, L)))))) ∧ ((lg_cmp (L o 13) v19) = 0 → (r = some (.int 9) ∧ M' = (Z, I, L)))))) ∧ ((lg_cmp (L o 13) v17) = 0 → (r = some (.int 8) ∧ M' = (Z, I, L)))))) ∧ ((lg_cmp (L o 13) ((v13 <<< ((32 : Int32).toInt64 &&& 63)) ||| v15)) = 0 → (r = some (.int 7) ∧ M' = (Z, I, L))))))) ∧ ((lg_cmp (L o 13) v11) = 0 → (r = some (.int 6) ∧ M' = (Z, I, L)))))) ∧ ((lg_cmp (L o 13) v9) = 0 → (r = some (.int 5) ∧ M' = (Z, I, L)))))) ∧ ((lg_cmp (L o 13) v7) = 0 → (r = some (.int 4) ∧ M' = (Z, I, L)))))) ∧ ((lg_cmp (L o 13) 121) = 0 → (r = some (.int 3) ∧ M' = (Z, I, L))))) ∧ ((lg_cmp (L o 13) 120) = 0 → (r = some (.int 2) ∧ M' = (Z, I, L))))) ∧ ((lg_cmp (L o 13) ((v3 <<< ((32 : Int32).toInt64 &&& 63)) ||| v5)) = 0 → (r = some (.int 1) ∧ M' = (Z, I, L))))))) ∧ ((lg_cmp (L o 13) v1) = 0 → (r = some (.int 0) ∧ M' = (Z, I, L)))))) ∧ (¬ (I o 11) = 2 → (r = some (.int ((-1))) ∧ M' = (Z, I, L))))) : Cl g 3 mu_X12_nameOf [rf g o] (Z, I, L) r M' := by
  refine cl_of (lv := [(0, rf g o)]) (by decide) (Nat.le_of_ble_eq_true rfl) rfl ?_
  refine fr_aload_n (i := 0) (q := 0) rfl dX12_nameOf_0 rfl ?_
  refine fr_getI dX12_nameOf_1 rfl fl_X12_132 k_o ?_
  refine fr_iconst (v := 2) (by decide) dX12_nameOf_4 rfl ?_
  refine fr_icmp_eq (tgt := 10) dX12_nameOf_5 (by decide) rfl (fun hc => ?_) (fun hc => ?_)
  · have h := h.1 hc
    refine fr_aload_n (i := 0) (q := 0) rfl dX12_nameOf_10 rfl ?_
    refine fr_getL dX12_nameOf_11 rfl fl_X12_145 k_o ?_
    refine fr_bipush (v := 116) (by decide) dX12_nameOf_14 rfl ?_
    refine fr_bipush (v := 97) (by decide) dX12_nameOf_16 rfl ?_
    refine fr_bipush (v := 112) (by decide) dX12_nameOf_18 rfl ?_
    obtain ⟨v1, hc2, h⟩ := h
    refine fr_callS2 (ν := mu_X12_w3) (st2 := [.long v1, .long (L o 13)]) (As := [.int 116, .int 97, .int 112]) (st := [.long (L o 13)]) (v := (some (.long v1))) (M1 := (Z, I, L)) dX12_nameOf_20 rfl ml_X12_149 mo_X12_w3 ms_X12_w3 (Nat.le_of_ble_eq_true rfl) rfl rfl (Nat.le_of_ble_eq_true rfl) hc2 rfl ?_
    refine fr_lcmp dX12_nameOf_23 rfl ?_
    refine fr_if_ne (tgt := 29) dX12_nameOf_24 (by decide) rfl (fun hc => ?_) (fun hc => ?_)
    · have h := h.1 hc
      refine fr_aload_n (i := 0) (q := 0) rfl dX12_nameOf_29 rfl ?_
      refine fr_getL dX12_nameOf_30 rfl fl_X12_145 k_o ?_
      refine fr_bipush (v := 104) (by decide) dX12_nameOf_33 rfl ?_
      refine fr_bipush (v := 101) (by decide) dX12_nameOf_35 rfl ?_
      refine fr_bipush (v := 97) (by decide) dX12_nameOf_37 rfl ?_
      obtain ⟨v3, hc4, h⟩ := h
      refine fr_callS2 (ν := mu_X12_w3) (st2 := [.long v3, .long (L o 13)]) (As := [.int 104, .int 101, .int 97]) (st := [.long (L o 13)]) (v := (some (.long v3))) (M1 := (Z, I, L)) dX12_nameOf_39 rfl ml_X12_149 mo_X12_w3 ms_X12_w3 (Nat.le_of_ble_eq_true rfl) rfl rfl (Nat.le_of_ble_eq_true rfl) hc4 rfl ?_
      refine fr_bipush (v := 32) (by decide) dX12_nameOf_42 rfl ?_
      refine fr_lshl dX12_nameOf_44 rfl ?_
      refine fr_bipush (v := 100) (by decide) dX12_nameOf_45 rfl ?_
      refine fr_bipush (v := 105) (by decide) dX12_nameOf_47 rfl ?_
      refine fr_bipush (v := 110) (by decide) dX12_nameOf_49 rfl ?_
      refine fr_bipush (v := 103) (by decide) dX12_nameOf_51 rfl ?_
      obtain ⟨v5, hc6, h⟩ := h
      refine fr_callS2 (ν := mu_X12_w4) (st2 := [.long v5, .long (v3 <<< ((32 : Int32).toInt64 &&& 63)), .long (L o 13)]) (As := [.int 100, .int 105, .int 110, .int 103]) (st := [.long (v3 <<< ((32 : Int32).toInt64 &&& 63)), .long (L o 13)]) (v := (some (.long v5))) (M1 := (Z, I, L)) dX12_nameOf_53 rfl ml_X12_237 mo_X12_w4 ms_X12_w4 (Nat.le_of_ble_eq_true rfl) rfl rfl (Nat.le_of_ble_eq_true rfl) hc6 rfl ?_
      refine fr_lor dX12_nameOf_56 rfl ?_
      refine fr_lcmp dX12_nameOf_57 rfl ?_
      refine fr_if_ne (tgt := 63) dX12_nameOf_58 (by decide) rfl (fun hc => ?_) (fun hc => ?_)
      · have h := h.1 hc
        refine fr_aload_n (i := 0) (q := 0) rfl dX12_nameOf_63 rfl ?_
        refine fr_getL dX12_nameOf_64 rfl fl_X12_145 k_o ?_
        refine fr_ldc2 (v := 120) kc_X12_241 dX12_nameOf_67 rfl ?_
        refine fr_lcmp dX12_nameOf_70 rfl ?_
        refine fr_if_ne (tgt := 76) dX12_nameOf_71 (by decide) rfl (fun hc => ?_) (fun hc => ?_)
        · have h := h.1 hc
          refine fr_aload_n (i := 0) (q := 0) rfl dX12_nameOf_76 rfl ?_
          refine fr_getL dX12_nameOf_77 rfl fl_X12_145 k_o ?_
          refine fr_ldc2 (v := 121) kc_X12_243 dX12_nameOf_80 rfl ?_
          refine fr_lcmp dX12_nameOf_83 rfl ?_
          refine fr_if_ne (tgt := 89) dX12_nameOf_84 (by decide) rfl (fun hc => ?_) (fun hc => ?_)
          · have h := h.1 hc
            refine fr_aload_n (i := 0) (q := 0) rfl dX12_nameOf_89 rfl ?_
            refine fr_getL dX12_nameOf_90 rfl fl_X12_145 k_o ?_
            refine fr_bipush (v := 104) (by decide) dX12_nameOf_93 rfl ?_
            refine fr_bipush (v := 101) (by decide) dX12_nameOf_95 rfl ?_
            refine fr_bipush (v := 114) (by decide) dX12_nameOf_97 rfl ?_
            refine fr_bipush (v := 101) (by decide) dX12_nameOf_99 rfl ?_
            obtain ⟨v7, hc8, h⟩ := h
            refine fr_callS2 (ν := mu_X12_w4) (st2 := [.long v7, .long (L o 13)]) (As := [.int 104, .int 101, .int 114, .int 101]) (st := [.long (L o 13)]) (v := (some (.long v7))) (M1 := (Z, I, L)) dX12_nameOf_101 rfl ml_X12_237 mo_X12_w4 ms_X12_w4 (Nat.le_of_ble_eq_true rfl) rfl rfl (Nat.le_of_ble_eq_true rfl) hc8 rfl ?_
            refine fr_lcmp dX12_nameOf_104 rfl ?_
            refine fr_if_ne (tgt := 110) dX12_nameOf_105 (by decide) rfl (fun hc => ?_) (fun hc => ?_)
            · have h := h.1 hc
              refine fr_aload_n (i := 0) (q := 0) rfl dX12_nameOf_110 rfl ?_
              refine fr_getL dX12_nameOf_111 rfl fl_X12_145 k_o ?_
              refine fr_bipush (v := 97) (by decide) dX12_nameOf_114 rfl ?_
              refine fr_bipush (v := 104) (by decide) dX12_nameOf_116 rfl ?_
              refine fr_bipush (v := 101) (by decide) dX12_nameOf_118 rfl ?_
              refine fr_bipush (v := 97) (by decide) dX12_nameOf_120 rfl ?_
              refine fr_bipush (v := 100) (by decide) dX12_nameOf_122 rfl ?_
              obtain ⟨v9, hc10, h⟩ := h
              refine fr_callS2 (ν := mu_X12_w5) (st2 := [.long v9, .long (L o 13)]) (As := [.int 97, .int 104, .int 101, .int 97, .int 100]) (st := [.long (L o 13)]) (v := (some (.long v9))) (M1 := (Z, I, L)) dX12_nameOf_124 rfl ml_X12_153 mo_X12_w5 ms_X12_w5 (Nat.le_of_ble_eq_true rfl) rfl rfl (Nat.le_of_ble_eq_true rfl) hc10 rfl ?_
              refine fr_lcmp dX12_nameOf_127 rfl ?_
              refine fr_if_ne (tgt := 133) dX12_nameOf_128 (by decide) rfl (fun hc => ?_) (fun hc => ?_)
              · have h := h.1 hc
                refine fr_aload_n (i := 0) (q := 0) rfl dX12_nameOf_133 rfl ?_
                refine fr_getL dX12_nameOf_134 rfl fl_X12_145 k_o ?_
                refine fr_bipush (v := 114) (by decide) dX12_nameOf_137 rfl ?_
                refine fr_bipush (v := 105) (by decide) dX12_nameOf_139 rfl ?_
                refine fr_bipush (v := 100) (by decide) dX12_nameOf_141 rfl ?_
                refine fr_bipush (v := 101) (by decide) dX12_nameOf_143 rfl ?_
                refine fr_bipush (v := 114) (by decide) dX12_nameOf_145 rfl ?_
                obtain ⟨v11, hc12, h⟩ := h
                refine fr_callS2 (ν := mu_X12_w5) (st2 := [.long v11, .long (L o 13)]) (As := [.int 114, .int 105, .int 100, .int 101, .int 114]) (st := [.long (L o 13)]) (v := (some (.long v11))) (M1 := (Z, I, L)) dX12_nameOf_147 rfl ml_X12_153 mo_X12_w5 ms_X12_w5 (Nat.le_of_ble_eq_true rfl) rfl rfl (Nat.le_of_ble_eq_true rfl) hc12 rfl ?_
                refine fr_lcmp dX12_nameOf_150 rfl ?_
                refine fr_if_ne (tgt := 157) dX12_nameOf_151 (by decide) rfl (fun hc => ?_) (fun hc => ?_)
                · have h := h.1 hc
                  refine fr_aload_n (i := 0) (q := 0) rfl dX12_nameOf_157 rfl ?_
                  refine fr_getL dX12_nameOf_158 rfl fl_X12_145 k_o ?_
                  refine fr_bipush (v := 99) (by decide) dX12_nameOf_161 rfl ?_
                  refine fr_bipush (v := 97) (by decide) dX12_nameOf_163 rfl ?_
                  refine fr_bipush (v := 114) (by decide) dX12_nameOf_165 rfl ?_
                  obtain ⟨v13, hc14, h⟩ := h
                  refine fr_callS2 (ν := mu_X12_w3) (st2 := [.long v13, .long (L o 13)]) (As := [.int 99, .int 97, .int 114]) (st := [.long (L o 13)]) (v := (some (.long v13))) (M1 := (Z, I, L)) dX12_nameOf_167 rfl ml_X12_149 mo_X12_w3 ms_X12_w3 (Nat.le_of_ble_eq_true rfl) rfl rfl (Nat.le_of_ble_eq_true rfl) hc14 rfl ?_
                  refine fr_bipush (v := 32) (by decide) dX12_nameOf_170 rfl ?_
                  refine fr_lshl dX12_nameOf_172 rfl ?_
                  refine fr_bipush (v := 114) (by decide) dX12_nameOf_173 rfl ?_
                  refine fr_bipush (v := 105) (by decide) dX12_nameOf_175 rfl ?_
                  refine fr_bipush (v := 101) (by decide) dX12_nameOf_177 rfl ?_
                  refine fr_bipush (v := 114) (by decide) dX12_nameOf_179 rfl ?_
                  obtain ⟨v15, hc16, h⟩ := h
                  refine fr_callS2 (ν := mu_X12_w4) (st2 := [.long v15, .long (v13 <<< ((32 : Int32).toInt64 &&& 63)), .long (L o 13)]) (As := [.int 114, .int 105, .int 101, .int 114]) (st := [.long (v13 <<< ((32 : Int32).toInt64 &&& 63)), .long (L o 13)]) (v := (some (.long v15))) (M1 := (Z, I, L)) dX12_nameOf_181 rfl ml_X12_237 mo_X12_w4 ms_X12_w4 (Nat.le_of_ble_eq_true rfl) rfl rfl (Nat.le_of_ble_eq_true rfl) hc16 rfl ?_
                  refine fr_lor dX12_nameOf_184 rfl ?_
                  refine fr_lcmp dX12_nameOf_185 rfl ?_
                  refine fr_if_ne (tgt := 192) dX12_nameOf_186 (by decide) rfl (fun hc => ?_) (fun hc => ?_)
                  · have h := h.1 hc
                    refine fr_aload_n (i := 0) (q := 0) rfl dX12_nameOf_192 rfl ?_
                    refine fr_getL dX12_nameOf_193 rfl fl_X12_145 k_o ?_
                    refine fr_bipush (v := 115) (by decide) dX12_nameOf_196 rfl ?_
                    refine fr_bipush (v := 105) (by decide) dX12_nameOf_198 rfl ?_
                    refine fr_bipush (v := 103) (by decide) dX12_nameOf_200 rfl ?_
                    refine fr_bipush (v := 104) (by decide) dX12_nameOf_202 rfl ?_
                    refine fr_bipush (v := 116) (by decide) dX12_nameOf_204 rfl ?_
                    obtain ⟨v17, hc18, h⟩ := h
                    refine fr_callS2 (ν := mu_X12_w5) (st2 := [.long v17, .long (L o 13)]) (As := [.int 115, .int 105, .int 103, .int 104, .int 116]) (st := [.long (L o 13)]) (v := (some (.long v17))) (M1 := (Z, I, L)) dX12_nameOf_206 rfl ml_X12_153 mo_X12_w5 ms_X12_w5 (Nat.le_of_ble_eq_true rfl) rfl rfl (Nat.le_of_ble_eq_true rfl) hc18 rfl ?_
                    refine fr_lcmp dX12_nameOf_209 rfl ?_
                    refine fr_if_ne (tgt := 216) dX12_nameOf_210 (by decide) rfl (fun hc => ?_) (fun hc => ?_)
                    · have h := h.1 hc
                      refine fr_aload_n (i := 0) (q := 0) rfl dX12_nameOf_216 rfl ?_
                      refine fr_getL dX12_nameOf_217 rfl fl_X12_145 k_o ?_
                      refine fr_bipush (v := 112) (by decide) dX12_nameOf_220 rfl ?_
                      refine fr_bipush (v := 97) (by decide) dX12_nameOf_222 rfl ?_
                      refine fr_bipush (v := 99) (by decide) dX12_nameOf_224 rfl ?_
                      refine fr_bipush (v := 101) (by decide) dX12_nameOf_226 rfl ?_
                      obtain ⟨v19, hc20, h⟩ := h
                      refine fr_callS2 (ν := mu_X12_w4) (st2 := [.long v19, .long (L o 13)]) (As := [.int 112, .int 97, .int 99, .int 101]) (st := [.long (L o 13)]) (v := (some (.long v19))) (M1 := (Z, I, L)) dX12_nameOf_228 rfl ml_X12_237 mo_X12_w4 ms_X12_w4 (Nat.le_of_ble_eq_true rfl) rfl rfl (Nat.le_of_ble_eq_true rfl) hc20 rfl ?_
                      refine fr_lcmp dX12_nameOf_231 rfl ?_
                      refine fr_if_ne (tgt := 240) dX12_nameOf_232 (by decide) rfl (fun hc => ?_) (fun hc => ?_)
                      · have h := h.1 hc
                        refine fr_aload_n (i := 0) (q := 0) rfl dX12_nameOf_240 rfl ?_
                        refine fr_getL dX12_nameOf_241 rfl fl_X12_145 k_o ?_
                        refine fr_bipush (v := 97) (by decide) dX12_nameOf_244 rfl ?_
                        refine fr_bipush (v := 115) (by decide) dX12_nameOf_246 rfl ?_
                        refine fr_bipush (v := 107) (by decide) dX12_nameOf_248 rfl ?_
                        refine fr_bipush (v := 115) (by decide) dX12_nameOf_250 rfl ?_
                        obtain ⟨v21, hc22, h⟩ := h
                        refine fr_callS2 (ν := mu_X12_w4) (st2 := [.long v21, .long (L o 13)]) (As := [.int 97, .int 115, .int 107, .int 115]) (st := [.long (L o 13)]) (v := (some (.long v21))) (M1 := (Z, I, L)) dX12_nameOf_252 rfl ml_X12_237 mo_X12_w4 ms_X12_w4 (Nat.le_of_ble_eq_true rfl) rfl rfl (Nat.le_of_ble_eq_true rfl) hc22 rfl ?_
                        refine fr_lcmp dX12_nameOf_255 rfl ?_
                        refine fr_if_ne (tgt := 264) dX12_nameOf_256 (by decide) rfl (fun hc => ?_) (fun hc => ?_)
                        · have h := h.1 hc
                          refine fr_iconst (v := (-1)) (by decide) dX12_nameOf_264 rfl ?_
                          exact fr_iret rfl dX12_nameOf_265 h.1 h.2
                        · have h := h.2 hc
                          refine fr_bipush (v := 10) (by decide) dX12_nameOf_259 rfl ?_
                          refine fr_goto (n := 265) dX12_nameOf_261 (by decide) ?_
                          exact fr_iret rfl dX12_nameOf_265 h.1 h.2
                      · have h := h.2 hc
                        refine fr_bipush (v := 9) (by decide) dX12_nameOf_235 rfl ?_
                        refine fr_goto (n := 265) dX12_nameOf_237 (by decide) ?_
                        exact fr_iret rfl dX12_nameOf_265 h.1 h.2
                    · have h := h.2 hc
                      refine fr_bipush (v := 8) (by decide) dX12_nameOf_213 rfl ?_
                      exact fr_iret rfl dX12_nameOf_215 h.1 h.2
                  · have h := h.2 hc
                    refine fr_bipush (v := 7) (by decide) dX12_nameOf_189 rfl ?_
                    exact fr_iret rfl dX12_nameOf_191 h.1 h.2
                · have h := h.2 hc
                  refine fr_bipush (v := 6) (by decide) dX12_nameOf_154 rfl ?_
                  exact fr_iret rfl dX12_nameOf_156 h.1 h.2
              · have h := h.2 hc
                refine fr_iconst (v := 5) (by decide) dX12_nameOf_131 rfl ?_
                exact fr_iret rfl dX12_nameOf_132 h.1 h.2
            · have h := h.2 hc
              refine fr_iconst (v := 4) (by decide) dX12_nameOf_108 rfl ?_
              exact fr_iret rfl dX12_nameOf_109 h.1 h.2
          · have h := h.2 hc
            refine fr_iconst (v := 3) (by decide) dX12_nameOf_87 rfl ?_
            exact fr_iret rfl dX12_nameOf_88 h.1 h.2
        · have h := h.2 hc
          refine fr_iconst (v := 2) (by decide) dX12_nameOf_74 rfl ?_
          exact fr_iret rfl dX12_nameOf_75 h.1 h.2
      · have h := h.2 hc
        refine fr_iconst (v := 1) (by decide) dX12_nameOf_61 rfl ?_
        exact fr_iret rfl dX12_nameOf_62 h.1 h.2
    · have h := h.2 hc
      refine fr_iconst (v := 0) (by decide) dX12_nameOf_27 rfl ?_
      exact fr_iret rfl dX12_nameOf_28 h.1 h.2
  · have h := h.2 hc
    refine fr_iconst (v := (-1)) (by decide) dX12_nameOf_8 rfl ?_
    exact fr_iret rfl dX12_nameOf_9 h.1 h.2
theorem cp_X12_isOf {g : GE} {Z : Zs} {I : Nat → Nat → Int32} {L : Nat → Nat → Int64} {r : Option Value} {M' : Mem} {o : Nat} {x1 : Int32} (k_o : KM Z o 12) (h : ((¬ (I o 22) = 2 → ((6 ≤ x1 → (r = some (.int 0) ∧ M' = (Z, I, L))) ∧ (¬ 6 ≤ x1 → (r = some (.int 1) ∧ M' = (Z, I, L))))) ∧ ((I o 22) = 2 → ((x1 ≤ 5 → (r = some (.int 0) ∧ M' = (Z, I, L))) ∧ (¬ x1 ≤ 5 → (r = some (.int 1) ∧ M' = (Z, I, L))))))) : Cl g 1 mu_X12_isOf [rf g o, .int x1] (Z, I, L) r M' := by
  refine cl_of (lv := [(0, rf g o), (1, .int x1)]) (by decide) (Nat.le_of_ble_eq_true rfl) rfl ?_
  refine fr_aload_n (i := 0) (q := 0) rfl dX12_isOf_0 rfl ?_
  refine fr_getI dX12_isOf_1 rfl fl_X12_245 k_o ?_
  refine fr_iconst (v := 2) (by decide) dX12_isOf_4 rfl ?_
  refine fr_icmp_ne (tgt := 21) dX12_isOf_5 (by decide) rfl (fun hc => ?_) (fun hc => ?_)
  · have h := h.1 hc
    refine fr_iload_n (i := 1) (q := 1) rfl dX12_isOf_21 rfl ?_
    refine fr_bipush (v := 6) (by decide) dX12_isOf_22 rfl ?_
    refine fr_icmp_ge (tgt := 31) dX12_isOf_24 (by decide) rfl (fun hc => ?_) (fun hc => ?_)
    · have h := h.1 hc
      refine fr_iconst (v := 0) (by decide) dX12_isOf_31 rfl ?_
      exact fr_zret (by decide) rfl dX12_isOf_32 h.1 h.2
    · have h := h.2 hc
      refine fr_iconst (v := 1) (by decide) dX12_isOf_27 rfl ?_
      refine fr_goto (n := 32) dX12_isOf_28 (by decide) ?_
      exact fr_zret (by decide) rfl dX12_isOf_32 h.1 h.2
  · have h := h.2 hc
    refine fr_iload_n (i := 1) (q := 1) rfl dX12_isOf_8 rfl ?_
    refine fr_iconst (v := 5) (by decide) dX12_isOf_9 rfl ?_
    refine fr_icmp_le (tgt := 17) dX12_isOf_10 (by decide) rfl (fun hc => ?_) (fun hc => ?_)
    · have h := h.1 hc
      refine fr_iconst (v := 0) (by decide) dX12_isOf_17 rfl ?_
      refine fr_goto (n := 32) dX12_isOf_18 (by decide) ?_
      exact fr_zret (by decide) rfl dX12_isOf_32 h.1 h.2
    · have h := h.2 hc
      refine fr_iconst (v := 1) (by decide) dX12_isOf_13 rfl ?_
      refine fr_goto (n := 32) dX12_isOf_14 (by decide) ?_
      exact fr_zret (by decide) rfl dX12_isOf_32 h.1 h.2
theorem cp_X12_sortOf {g : GE} {Z : Zs} {I : Nat → Nat → Int32} {L : Nat → Nat → Int64} {r : Option Value} {M' : Mem} {o : Nat} (k_o : KM Z o 12) (h : (∃ (v1 : Int64), Cl g 2 mu_X12_w4 [.int 100, .int 111, .int 101, .int 115] (Z, I, L) (some (.long v1)) (Z, I, L) ∧ (∃ (v3 : Int32), Cl g 1 mu_X12_isWord [rf g o, .long v1] (Z, I, L) (some (.int v3)) (Z, I, L) ∧ ((v3 = 0 → (∃ (v5 : Int64), Cl g 2 mu_X12_w5 [.int 102, .int 101, .int 97, .int 114, .int 115] (Z, I, L) (some (.long v5)) (Z, I, L) ∧ (∃ (v7 : Int32), Cl g 1 mu_X12_isWord [rf g o, .long v5] (Z, I, L) (some (.int v7)) (Z, I, L) ∧ ((v7 = 0 → (∃ (v9 : Int64), Cl g 2 mu_X12_w5 [.int 108, .int 105, .int 107, .int 101, .int 115] (Z, I, L) (some (.long v9)) (Z, I, L) ∧ (∃ (v11 : Int32), Cl g 1 mu_X12_isWord [rf g o, .long v9] (Z, I, L) (some (.int v11)) (Z, I, L) ∧ ((v11 = 0 → (r = some (.int ((-1))) ∧ M' = (Z, I, L))) ∧ (¬ v11 = 0 → (r = some (.int 2) ∧ M' = (Z, I, L))))))) ∧ (¬ v7 = 0 → (r = some (.int 1) ∧ M' = (Z, I, L))))))) ∧ (¬ v3 = 0 → (r = some (.int 0) ∧ M' = (Z, I, L))))))) : Cl g 3 mu_X12_sortOf [rf g o] (Z, I, L) r M' := by
  refine cl_of (lv := [(0, rf g o)]) (by decide) (Nat.le_of_ble_eq_true rfl) rfl ?_
  refine fr_aload_n (i := 0) (q := 0) rfl dX12_sortOf_0 rfl ?_
  refine fr_bipush (v := 100) (by decide) dX12_sortOf_1 rfl ?_
  refine fr_bipush (v := 111) (by decide) dX12_sortOf_3 rfl ?_
  refine fr_bipush (v := 101) (by decide) dX12_sortOf_5 rfl ?_
  refine fr_bipush (v := 115) (by decide) dX12_sortOf_7 rfl ?_
  obtain ⟨v1, hc2, h⟩ := h
  refine fr_callS2 (ν := mu_X12_w4) (st2 := [.long v1, rf g o]) (As := [.int 100, .int 111, .int 101, .int 115]) (st := [rf g o]) (v := (some (.long v1))) (M1 := (Z, I, L)) dX12_sortOf_9 rfl ml_X12_237 mo_X12_w4 ms_X12_w4 (Nat.le_of_ble_eq_true rfl) rfl rfl (Nat.le_of_ble_eq_true rfl) hc2 rfl ?_
  obtain ⟨v3, hc4, h⟩ := h
  refine fr_callV2 (ν := mu_X12_isWord) (st2 := [.int v3]) (As := [.long v1]) (st := []) (v := (some (.int v3))) (M1 := (Z, I, L)) dX12_sortOf_12 rfl ml_X12_211 mo_X12_isWord mi_X12_isWord (ci := 12) rfl rfl k_o (Nat.le_of_ble_eq_true rfl) rfl rfl (Nat.le_of_ble_eq_true rfl) hc4 rfl ?_
  refine fr_if_eq (tgt := 20) dX12_sortOf_15 (by decide) rfl (fun hc => ?_) (fun hc => ?_)
  · have h := h.1 hc
    refine fr_aload_n (i := 0) (q := 0) rfl dX12_sortOf_20 rfl ?_
    refine fr_bipush (v := 102) (by decide) dX12_sortOf_21 rfl ?_
    refine fr_bipush (v := 101) (by decide) dX12_sortOf_23 rfl ?_
    refine fr_bipush (v := 97) (by decide) dX12_sortOf_25 rfl ?_
    refine fr_bipush (v := 114) (by decide) dX12_sortOf_27 rfl ?_
    refine fr_bipush (v := 115) (by decide) dX12_sortOf_29 rfl ?_
    obtain ⟨v5, hc6, h⟩ := h
    refine fr_callS2 (ν := mu_X12_w5) (st2 := [.long v5, rf g o]) (As := [.int 102, .int 101, .int 97, .int 114, .int 115]) (st := [rf g o]) (v := (some (.long v5))) (M1 := (Z, I, L)) dX12_sortOf_31 rfl ml_X12_153 mo_X12_w5 ms_X12_w5 (Nat.le_of_ble_eq_true rfl) rfl rfl (Nat.le_of_ble_eq_true rfl) hc6 rfl ?_
    obtain ⟨v7, hc8, h⟩ := h
    refine fr_callV2 (ν := mu_X12_isWord) (st2 := [.int v7]) (As := [.long v5]) (st := []) (v := (some (.int v7))) (M1 := (Z, I, L)) dX12_sortOf_34 rfl ml_X12_211 mo_X12_isWord mi_X12_isWord (ci := 12) rfl rfl k_o (Nat.le_of_ble_eq_true rfl) rfl rfl (Nat.le_of_ble_eq_true rfl) hc8 rfl ?_
    refine fr_if_eq (tgt := 44) dX12_sortOf_37 (by decide) rfl (fun hc => ?_) (fun hc => ?_)
    · have h := h.1 hc
      refine fr_aload_n (i := 0) (q := 0) rfl dX12_sortOf_44 rfl ?_
      refine fr_bipush (v := 108) (by decide) dX12_sortOf_45 rfl ?_
      refine fr_bipush (v := 105) (by decide) dX12_sortOf_47 rfl ?_
      refine fr_bipush (v := 107) (by decide) dX12_sortOf_49 rfl ?_
      refine fr_bipush (v := 101) (by decide) dX12_sortOf_51 rfl ?_
      refine fr_bipush (v := 115) (by decide) dX12_sortOf_53 rfl ?_
      obtain ⟨v9, hc10, h⟩ := h
      refine fr_callS2 (ν := mu_X12_w5) (st2 := [.long v9, rf g o]) (As := [.int 108, .int 105, .int 107, .int 101, .int 115]) (st := [rf g o]) (v := (some (.long v9))) (M1 := (Z, I, L)) dX12_sortOf_55 rfl ml_X12_153 mo_X12_w5 ms_X12_w5 (Nat.le_of_ble_eq_true rfl) rfl rfl (Nat.le_of_ble_eq_true rfl) hc10 rfl ?_
      obtain ⟨v11, hc12, h⟩ := h
      refine fr_callV2 (ν := mu_X12_isWord) (st2 := [.int v11]) (As := [.long v9]) (st := []) (v := (some (.int v11))) (M1 := (Z, I, L)) dX12_sortOf_58 rfl ml_X12_211 mo_X12_isWord mi_X12_isWord (ci := 12) rfl rfl k_o (Nat.le_of_ble_eq_true rfl) rfl rfl (Nat.le_of_ble_eq_true rfl) hc12 rfl ?_
      refine fr_if_eq (tgt := 68) dX12_sortOf_61 (by decide) rfl (fun hc => ?_) (fun hc => ?_)
      · have h := h.1 hc
        refine fr_iconst (v := (-1)) (by decide) dX12_sortOf_68 rfl ?_
        exact fr_iret rfl dX12_sortOf_69 h.1 h.2
      · have h := h.2 hc
        refine fr_iconst (v := 2) (by decide) dX12_sortOf_64 rfl ?_
        refine fr_goto (n := 69) dX12_sortOf_65 (by decide) ?_
        exact fr_iret rfl dX12_sortOf_69 h.1 h.2
    · have h := h.2 hc
      refine fr_iconst (v := 1) (by decide) dX12_sortOf_40 rfl ?_
      refine fr_goto (n := 69) dX12_sortOf_41 (by decide) ?_
      exact fr_iret rfl dX12_sortOf_69 h.1 h.2
  · have h := h.2 hc
    refine fr_iconst (v := 0) (by decide) dX12_sortOf_18 rfl ?_
    exact fr_iret rfl dX12_sortOf_19 h.1 h.2
theorem cp_X12_clause {g : GE} {Z : Zs} {I : Nat → Nat → Int32} {L : Nat → Nat → Int64} {r : Option Value} {M' : Mem} {o : Nat} {o_texts : Nat} (k_o : KM Z o 12) (r_o_texts : Z.2.1 o 4 = some o_texts) (k_o_texts : KM Z o_texts 13) (h : (∃ (v1 : Int32), Cl g 3 mu_X12_sortOf [rf g o] (Z, I, L) (some (.int v1)) (Z, I, L) ∧ ((0 ≤ v1 → ((¬ (((I o 23) >>> (v1 &&& 31)) &&& 1) = 1 → (∀ I3 : Nat → Nat → Int32, I3 = rw1 I o (upd (I o) 23 ((I o 23) ||| (1 <<< (v1 &&& 31)))) → (∀ I4 : Nat → Nat → Int32, I4 = rw1 I3 o (upd (I3 o) 22 v1) → (∃ (I5 : Nat → Nat → Int32) (L6 : Nat → Nat → Int64), Cl g 3 mu_X12_nextToken [rf g o] (Z, I4, L) none (Z, I5, L6) ∧ (vp_in (I5 o 14) (Z.2.2.1 o_texts) ∧ (∀ y9 : Int32, y9 = (((I5 o 14) + 1) + (3 * (I5 o_texts (I5 o 14).toNatClampNeg))) → (vp_in y9 (Z.2.2.1 o_texts) ∧ (∀ I11 : Nat → Nat → Int32, I11 = rw1 I5 o_texts (upd (I5 o_texts) y9.toNatClampNeg v1) → (vp_in (y9 + 1) (Z.2.2.1 o_texts) ∧ (∀ I13 : Nat → Nat → Int32, I13 = rw1 I11 o_texts (upd (I11 o_texts) (y9 + 1).toNatClampNeg (I11 o 16)) → ((¬ v1 = 1 → (∃ (v14 : Int32) (I15 : Nat → Nat → Int32) (L16 : Nat → Nat → Int64), Cl g 6 mu_X12_parsed [rf g o, .int 0] (Z, I13, L6) (some (.int v14)) (Z, I15, L16) ∧ ((v14 = 0 → (vp_in (y9 + 2) (Z.2.2.1 o_texts) ∧ (∀ I19 : Nat → Nat → Int32, I19 = rw1 I15 o_texts (upd (I15 o_texts) (y9 + 2).toNatClampNeg (I15 o 16)) → (vp_in (I19 o 14) (Z.2.2.1 o_texts) ∧ (vp_in (I19 o 14) (Z.2.2.1 o_texts) ∧ (∀ I22 : Nat → Nat → Int32, I22 = rw1 I19 o_texts (upd (I19 o_texts) (I19 o 14).toNatClampNeg ((I19 o_texts (I19 o 14).toNatClampNeg) + 1)) → (((I22 o 11) = 59 → (∃ (I23 : Nat → Nat → Int32) (L24 : Nat → Nat → Int64), Cl g 3 mu_X12_nextToken [rf g o] (Z, I22, L16) none (Z, I23, L24) ∧ (r = some (.int 0) ∧ M' = (Z, I23, L24)))) ∧ (¬ (I22 o 11) = 59 → (r = some (.int 1) ∧ M' = (Z, I22, L16)))))))))) ∧ (¬ v14 = 0 → (r = some (.int v14) ∧ M' = (Z, I15, L16)))))) ∧ (v1 = 1 → (∃ (v26 : Int32) (I27 : Nat → Nat → Int32) (L28 : Nat → Nat → Int64), Cl g 6 mu_X12_parsed [rf g o, .int 1] (Z, I13, L6) (some (.int v26)) (Z, I27, L28) ∧ ((v26 = 0 → (vp_in (y9 + 2) (Z.2.2.1 o_texts) ∧ (∀ I31 : Nat → Nat → Int32, I31 = rw1 I27 o_texts (upd (I27 o_texts) (y9 + 2).toNatClampNeg (I27 o 16)) → (vp_in (I31 o 14) (Z.2.2.1 o_texts) ∧ (vp_in (I31 o 14) (Z.2.2.1 o_texts) ∧ (∀ I34 : Nat → Nat → Int32, I34 = rw1 I31 o_texts (upd (I31 o_texts) (I31 o 14).toNatClampNeg ((I31 o_texts (I31 o 14).toNatClampNeg) + 1)) → (((I34 o 11) = 59 → (∃ (I35 : Nat → Nat → Int32) (L36 : Nat → Nat → Int64), Cl g 3 mu_X12_nextToken [rf g o] (Z, I34, L28) none (Z, I35, L36) ∧ (r = some (.int 0) ∧ M' = (Z, I35, L36)))) ∧ (¬ (I34 o 11) = 59 → (r = some (.int 1) ∧ M' = (Z, I34, L28)))))))))) ∧ (¬ v26 = 0 → (r = some (.int v26) ∧ M' = (Z, I27, L28))))))))))))))))) ∧ ((((I o 23) >>> (v1 &&& 31)) &&& 1) = 1 → (r = some (.int 4) ∧ M' = (Z, I, L))))) ∧ (¬ 0 ≤ v1 → (r = some (.int 1) ∧ M' = (Z, I, L)))))) : Cl g 7 mu_X12_clause [rf g o] (Z, I, L) r M' := by
  refine cl_of (lv := [(0, rf g o)]) (by decide) (Nat.le_of_ble_eq_true rfl) rfl ?_
  refine fr_aload_n (i := 0) (q := 0) rfl dX12_clause_0 rfl ?_
  obtain ⟨v1, hc2, h⟩ := h
  refine fr_callV2 (ν := mu_X12_sortOf) (st2 := [.int v1]) (As := []) (st := []) (v := (some (.int v1))) (M1 := (Z, I, L)) dX12_clause_1 rfl ml_X12_248 mo_X12_sortOf mi_X12_sortOf (ci := 12) rfl rfl k_o (Nat.le_of_ble_eq_true rfl) rfl rfl (Nat.le_of_ble_eq_true rfl) hc2 rfl ?_
  refine fr_istore_n (i := 1) (lv' := [(1, .int v1), (0, rf g o)]) dX12_clause_4 rfl (by decide) rfl ?_
  refine fr_iload_n (i := 1) (q := 0) rfl dX12_clause_5 rfl ?_
  refine fr_if_ge (tgt := 11) dX12_clause_6 (by decide) rfl (fun hc => ?_) (fun hc => ?_)
  · have h := h.1 hc
    refine fr_aload_n (i := 0) (q := 1) rfl dX12_clause_11 rfl ?_
    refine fr_getI dX12_clause_12 rfl fl_X12_251 k_o ?_
    refine fr_iload_n (i := 1) (q := 0) rfl dX12_clause_15 rfl ?_
    refine fr_ishr dX12_clause_16 rfl ?_
    refine fr_iconst (v := 1) (by decide) dX12_clause_17 rfl ?_
    refine fr_iand dX12_clause_18 rfl ?_
    refine fr_iconst (v := 1) (by decide) dX12_clause_19 rfl ?_
    refine fr_icmp_ne (tgt := 25) dX12_clause_20 (by decide) rfl (fun hc => ?_) (fun hc => ?_)
    · have h := h.1 hc
      refine fr_aload_n (i := 0) (q := 1) rfl dX12_clause_25 rfl ?_
      refine fr_dup rfl dX12_clause_26 rfl ?_
      refine fr_getI dX12_clause_27 rfl fl_X12_251 k_o ?_
      refine fr_iconst (v := 1) (by decide) dX12_clause_30 rfl ?_
      refine fr_iload_n (i := 1) (q := 0) rfl dX12_clause_31 rfl ?_
      refine fr_ishl dX12_clause_32 rfl ?_
      refine fr_ior dX12_clause_33 rfl ?_
      refine fr_putI dX12_clause_34 rfl fp_X12_251 k_o ?_
      refine fr_memI (fun I3 hI3 => ?_)
      have h := h I3 hI3
      refine fr_aload_n (i := 0) (q := 1) rfl dX12_clause_37 rfl ?_
      refine fr_iload_n (i := 1) (q := 0) rfl dX12_clause_38 rfl ?_
      refine fr_putI dX12_clause_39 rfl fp_X12_245 k_o ?_
      refine fr_memI (fun I4 hI4 => ?_)
      have h := h I4 hI4
      refine fr_aload_n (i := 0) (q := 1) rfl dX12_clause_42 rfl ?_
      obtain ⟨I5, L6, hc7, h⟩ := h
      refine fr_callV2 (ν := mu_X12_nextToken) (st2 := []) (As := []) (st := []) (v := none) (M1 := (Z, I5, L6)) dX12_clause_43 rfl ml_X12_194 mo_X12_nextToken mi_X12_nextToken (ci := 12) rfl rfl k_o (Nat.le_of_ble_eq_true rfl) rfl rfl (Nat.le_of_ble_eq_true rfl) hc7 rfl ?_
      refine fr_aload_n (i := 0) (q := 1) rfl dX12_clause_46 rfl ?_
      refine fr_getI dX12_clause_47 rfl fl_X12_157 k_o ?_
      refine fr_iconst (v := 1) (by decide) dX12_clause_50 rfl ?_
      refine fr_iadd dX12_clause_51 rfl ?_
      refine fr_iconst (v := 3) (by decide) dX12_clause_52 rfl ?_
      refine fr_aload_n (i := 0) (q := 1) rfl dX12_clause_53 rfl ?_
      refine fr_getR dX12_clause_54 rfl fl_X12_16 k_o r_o_texts ?_
      refine fr_aload_n (i := 0) (q := 1) rfl dX12_clause_57 rfl ?_
      refine fr_getI dX12_clause_58 rfl fl_X12_157 k_o ?_
      obtain ⟨hz8, h⟩ := h
      refine fr_iald dX12_clause_61 rfl k_o_texts hz8 ?_
      refine fr_imul dX12_clause_62 rfl ?_
      refine fr_iadd dX12_clause_63 rfl ?_
      refine fr_topi (fun y9 hy9 => ?_)
      have h := h y9 hy9
      refine fr_istore_n (i := 2) (lv' := [(2, .int y9), (1, .int v1), (0, rf g o)]) dX12_clause_64 rfl (by decide) rfl ?_
      refine fr_aload_n (i := 0) (q := 2) rfl dX12_clause_65 rfl ?_
      refine fr_getR dX12_clause_66 rfl fl_X12_16 k_o r_o_texts ?_
      refine fr_iload_n (i := 2) (q := 0) rfl dX12_clause_69 rfl ?_
      refine fr_iload_n (i := 1) (q := 1) rfl dX12_clause_70 rfl ?_
      obtain ⟨hz10, h⟩ := h
      refine fr_iast dX12_clause_71 rfl k_o_texts hz10 ?_
      refine fr_memI (fun I11 hI11 => ?_)
      have h := h I11 hI11
      refine fr_aload_n (i := 0) (q := 2) rfl dX12_clause_72 rfl ?_
      refine fr_getR dX12_clause_73 rfl fl_X12_16 k_o r_o_texts ?_
      refine fr_iload_n (i := 2) (q := 0) rfl dX12_clause_76 rfl ?_
      refine fr_iconst (v := 1) (by decide) dX12_clause_77 rfl ?_
      refine fr_iadd dX12_clause_78 rfl ?_
      refine fr_aload_n (i := 0) (q := 2) rfl dX12_clause_79 rfl ?_
      refine fr_getI dX12_clause_80 rfl fl_X12_160 k_o ?_
      obtain ⟨hz12, h⟩ := h
      refine fr_iast dX12_clause_83 rfl k_o_texts hz12 ?_
      refine fr_memI (fun I13 hI13 => ?_)
      have h := h I13 hI13
      refine fr_aload_n (i := 0) (q := 2) rfl dX12_clause_84 rfl ?_
      refine fr_iload_n (i := 1) (q := 1) rfl dX12_clause_85 rfl ?_
      refine fr_iconst (v := 1) (by decide) dX12_clause_86 rfl ?_
      refine fr_icmp_ne (tgt := 94) dX12_clause_87 (by decide) rfl (fun hc => ?_) (fun hc => ?_)
      · have h := h.1 hc
        refine fr_iconst (v := 0) (by decide) dX12_clause_94 rfl ?_
        obtain ⟨v14, I15, L16, hc17, h⟩ := h
        refine fr_callV2 (ν := mu_X12_parsed) (st2 := [.int v14]) (As := [.int 0]) (st := []) (v := (some (.int v14))) (M1 := (Z, I15, L16)) dX12_clause_95 rfl ml_X12_254 mo_X12_parsed mi_X12_parsed (ci := 12) rfl rfl k_o (Nat.le_of_ble_eq_true rfl) rfl rfl (Nat.le_of_ble_eq_true rfl) hc17 rfl ?_
        refine fr_istore_n (i := 3) (lv' := [(3, .int v14), (2, .int y9), (1, .int v1), (0, rf g o)]) dX12_clause_98 rfl (by decide) rfl ?_
        refine fr_iload_n (i := 3) (q := 0) rfl dX12_clause_99 rfl ?_
        refine fr_if_eq (tgt := 105) dX12_clause_100 (by decide) rfl (fun hc => ?_) (fun hc => ?_)
        · have h := h.1 hc
          refine fr_aload_n (i := 0) (q := 3) rfl dX12_clause_105 rfl ?_
          refine fr_getR dX12_clause_106 rfl fl_X12_16 k_o r_o_texts ?_
          refine fr_iload_n (i := 2) (q := 1) rfl dX12_clause_109 rfl ?_
          refine fr_iconst (v := 2) (by decide) dX12_clause_110 rfl ?_
          refine fr_iadd dX12_clause_111 rfl ?_
          refine fr_aload_n (i := 0) (q := 3) rfl dX12_clause_112 rfl ?_
          refine fr_getI dX12_clause_113 rfl fl_X12_160 k_o ?_
          obtain ⟨hz18, h⟩ := h
          refine fr_iast dX12_clause_116 rfl k_o_texts hz18 ?_
          refine fr_memI (fun I19 hI19 => ?_)
          have h := h I19 hI19
          refine fr_aload_n (i := 0) (q := 3) rfl dX12_clause_117 rfl ?_
          refine fr_getR dX12_clause_118 rfl fl_X12_16 k_o r_o_texts ?_
          refine fr_aload_n (i := 0) (q := 3) rfl dX12_clause_121 rfl ?_
          refine fr_getI dX12_clause_122 rfl fl_X12_157 k_o ?_
          refine fr_dup2 rfl rfl dX12_clause_125 rfl ?_
          obtain ⟨hz20, h⟩ := h
          refine fr_iald dX12_clause_126 rfl k_o_texts hz20 ?_
          refine fr_iconst (v := 1) (by decide) dX12_clause_127 rfl ?_
          refine fr_iadd dX12_clause_128 rfl ?_
          obtain ⟨hz21, h⟩ := h
          refine fr_iast dX12_clause_129 rfl k_o_texts hz21 ?_
          refine fr_memI (fun I22 hI22 => ?_)
          have h := h I22 hI22
          refine fr_aload_n (i := 0) (q := 3) rfl dX12_clause_130 rfl ?_
          refine fr_getI dX12_clause_131 rfl fl_X12_132 k_o ?_
          refine fr_bipush (v := 59) (by decide) dX12_clause_134 rfl ?_
          refine fr_icmp_eq (tgt := 141) dX12_clause_136 (by decide) rfl (fun hc => ?_) (fun hc => ?_)
          · have h := h.1 hc
            refine fr_aload_n (i := 0) (q := 3) rfl dX12_clause_141 rfl ?_
            obtain ⟨I23, L24, hc25, h⟩ := h
            refine fr_callV2 (ν := mu_X12_nextToken) (st2 := []) (As := []) (st := []) (v := none) (M1 := (Z, I23, L24)) dX12_clause_142 rfl ml_X12_194 mo_X12_nextToken mi_X12_nextToken (ci := 12) rfl rfl k_o (Nat.le_of_ble_eq_true rfl) rfl rfl (Nat.le_of_ble_eq_true rfl) hc25 rfl ?_
            refine fr_iconst (v := 0) (by decide) dX12_clause_145 rfl ?_
            exact fr_iret rfl dX12_clause_146 h.1 h.2
          · have h := h.2 hc
            refine fr_iconst (v := 1) (by decide) dX12_clause_139 rfl ?_
            exact fr_iret rfl dX12_clause_140 h.1 h.2
        · have h := h.2 hc
          refine fr_iload_n (i := 3) (q := 0) rfl dX12_clause_103 rfl ?_
          exact fr_iret rfl dX12_clause_104 h.1 h.2
      · have h := h.2 hc
        refine fr_iconst (v := 1) (by decide) dX12_clause_90 rfl ?_
        refine fr_goto (n := 95) dX12_clause_91 (by decide) ?_
        obtain ⟨v26, I27, L28, hc29, h⟩ := h
        refine fr_callV2 (ν := mu_X12_parsed) (st2 := [.int v26]) (As := [.int 1]) (st := []) (v := (some (.int v26))) (M1 := (Z, I27, L28)) dX12_clause_95 rfl ml_X12_254 mo_X12_parsed mi_X12_parsed (ci := 12) rfl rfl k_o (Nat.le_of_ble_eq_true rfl) rfl rfl (Nat.le_of_ble_eq_true rfl) hc29 rfl ?_
        refine fr_istore_n (i := 3) (lv' := [(3, .int v26), (2, .int y9), (1, .int v1), (0, rf g o)]) dX12_clause_98 rfl (by decide) rfl ?_
        refine fr_iload_n (i := 3) (q := 0) rfl dX12_clause_99 rfl ?_
        refine fr_if_eq (tgt := 105) dX12_clause_100 (by decide) rfl (fun hc => ?_) (fun hc => ?_)
        · have h := h.1 hc
          refine fr_aload_n (i := 0) (q := 3) rfl dX12_clause_105 rfl ?_
          refine fr_getR dX12_clause_106 rfl fl_X12_16 k_o r_o_texts ?_
          refine fr_iload_n (i := 2) (q := 1) rfl dX12_clause_109 rfl ?_
          refine fr_iconst (v := 2) (by decide) dX12_clause_110 rfl ?_
          refine fr_iadd dX12_clause_111 rfl ?_
          refine fr_aload_n (i := 0) (q := 3) rfl dX12_clause_112 rfl ?_
          refine fr_getI dX12_clause_113 rfl fl_X12_160 k_o ?_
          obtain ⟨hz30, h⟩ := h
          refine fr_iast dX12_clause_116 rfl k_o_texts hz30 ?_
          refine fr_memI (fun I31 hI31 => ?_)
          have h := h I31 hI31
          refine fr_aload_n (i := 0) (q := 3) rfl dX12_clause_117 rfl ?_
          refine fr_getR dX12_clause_118 rfl fl_X12_16 k_o r_o_texts ?_
          refine fr_aload_n (i := 0) (q := 3) rfl dX12_clause_121 rfl ?_
          refine fr_getI dX12_clause_122 rfl fl_X12_157 k_o ?_
          refine fr_dup2 rfl rfl dX12_clause_125 rfl ?_
          obtain ⟨hz32, h⟩ := h
          refine fr_iald dX12_clause_126 rfl k_o_texts hz32 ?_
          refine fr_iconst (v := 1) (by decide) dX12_clause_127 rfl ?_
          refine fr_iadd dX12_clause_128 rfl ?_
          obtain ⟨hz33, h⟩ := h
          refine fr_iast dX12_clause_129 rfl k_o_texts hz33 ?_
          refine fr_memI (fun I34 hI34 => ?_)
          have h := h I34 hI34
          refine fr_aload_n (i := 0) (q := 3) rfl dX12_clause_130 rfl ?_
          refine fr_getI dX12_clause_131 rfl fl_X12_132 k_o ?_
          refine fr_bipush (v := 59) (by decide) dX12_clause_134 rfl ?_
          refine fr_icmp_eq (tgt := 141) dX12_clause_136 (by decide) rfl (fun hc => ?_) (fun hc => ?_)
          · have h := h.1 hc
            refine fr_aload_n (i := 0) (q := 3) rfl dX12_clause_141 rfl ?_
            obtain ⟨I35, L36, hc37, h⟩ := h
            refine fr_callV2 (ν := mu_X12_nextToken) (st2 := []) (As := []) (st := []) (v := none) (M1 := (Z, I35, L36)) dX12_clause_142 rfl ml_X12_194 mo_X12_nextToken mi_X12_nextToken (ci := 12) rfl rfl k_o (Nat.le_of_ble_eq_true rfl) rfl rfl (Nat.le_of_ble_eq_true rfl) hc37 rfl ?_
            refine fr_iconst (v := 0) (by decide) dX12_clause_145 rfl ?_
            exact fr_iret rfl dX12_clause_146 h.1 h.2
          · have h := h.2 hc
            refine fr_iconst (v := 1) (by decide) dX12_clause_139 rfl ?_
            exact fr_iret rfl dX12_clause_140 h.1 h.2
        · have h := h.2 hc
          refine fr_iload_n (i := 3) (q := 0) rfl dX12_clause_103 rfl ?_
          exact fr_iret rfl dX12_clause_104 h.1 h.2
    · have h := h.2 hc
      refine fr_iconst (v := 4) (by decide) dX12_clause_23 rfl ?_
      exact fr_iret rfl dX12_clause_24 h.1 h.2
  · have h := h.2 hc
    refine fr_iconst (v := 1) (by decide) dX12_clause_9 rfl ?_
    exact fr_iret rfl dX12_clause_10 h.1 h.2
abbrev Lp_X12_readText_48 (g : GE) (d : Nat) (o : Nat) (M : Mem) (r : Option Value) (M' : Mem) : Prop := Fr g d mu_X12_readText 48 [(0, rf g o)] [] M r M'
theorem cp_X12_readText {g : GE} {Z : Zs} {I : Nat → Nat → Int32} {L : Nat → Nat → Int64} {r : Option Value} {M' : Mem} {o : Nat} {o_a : Nat} {o_texts : Nat} (k_o : KM Z o 12) (r_o_a : Z.2.1 o 0 = some o_a) (k_o_a : KM Z o_a 13) (r_o_texts : Z.2.1 o 4 = some o_texts) (k_o_texts : KM Z o_texts 13) (h : (vp_in 1 (Z.2.2.1 o_a) ∧ (∀ I2 : Nat → Nat → Int32, I2 = rw1 I o (upd (I o) 14 (620 * (I o_a (1 : Int32).toNatClampNeg))) → (vp_in (I2 o 14) (Z.2.2.1 o_texts) ∧ (∀ I4 : Nat → Nat → Int32, I4 = rw1 I2 o_texts (upd (I2 o_texts) (I2 o 14).toNatClampNeg 0) → (∀ I5 : Nat → Nat → Int32, I5 = rw1 I4 o (upd (I4 o) 16 0) → (∀ I6 : Nat → Nat → Int32, I6 = rw1 I5 o (upd (I5 o) 20 0) → (∀ I7 : Nat → Nat → Int32, I7 = rw1 I6 o (upd (I6 o) 23 0) → (∀ I8 : Nat → Nat → Int32, I8 = rw1 I7 o (upd (I7 o) 9 0) → (∃ (I9 : Nat → Nat → Int32) (L10 : Nat → Nat → Int64), Cl g 3 mu_X12_nextToken [rf g o] (Z, I8, L) none (Z, I9, L10) ∧ Lp_X12_readText_48 g 8 o (Z, I9, L10) r M')))))))))) : Cl g 8 mu_X12_readText [rf g o] (Z, I, L) r M' := by
  refine cl_of (lv := [(0, rf g o)]) (by decide) (Nat.le_of_ble_eq_true rfl) rfl ?_
  refine fr_aload_n (i := 0) (q := 0) rfl dX12_readText_0 rfl ?_
  refine fr_sipush (v := 620) (by decide) dX12_readText_1 rfl ?_
  refine fr_aload_n (i := 0) (q := 0) rfl dX12_readText_4 rfl ?_
  refine fr_getR dX12_readText_5 rfl fl_X12_7 k_o r_o_a ?_
  refine fr_iconst (v := 1) (by decide) dX12_readText_8 rfl ?_
  obtain ⟨hz1, h⟩ := h
  refine fr_iald dX12_readText_9 rfl k_o_a hz1 ?_
  refine fr_imul dX12_readText_10 rfl ?_
  refine fr_putI dX12_readText_11 rfl fp_X12_157 k_o ?_
  refine fr_memI (fun I2 hI2 => ?_)
  have h := h I2 hI2
  refine fr_aload_n (i := 0) (q := 0) rfl dX12_readText_14 rfl ?_
  refine fr_getR dX12_readText_15 rfl fl_X12_16 k_o r_o_texts ?_
  refine fr_aload_n (i := 0) (q := 0) rfl dX12_readText_18 rfl ?_
  refine fr_getI dX12_readText_19 rfl fl_X12_157 k_o ?_
  refine fr_iconst (v := 0) (by decide) dX12_readText_22 rfl ?_
  obtain ⟨hz3, h⟩ := h
  refine fr_iast dX12_readText_23 rfl k_o_texts hz3 ?_
  refine fr_memI (fun I4 hI4 => ?_)
  have h := h I4 hI4
  refine fr_aload_n (i := 0) (q := 0) rfl dX12_readText_24 rfl ?_
  refine fr_iconst (v := 0) (by decide) dX12_readText_25 rfl ?_
  refine fr_putI dX12_readText_26 rfl fp_X12_160 k_o ?_
  refine fr_memI (fun I5 hI5 => ?_)
  have h := h I5 hI5
  refine fr_aload_n (i := 0) (q := 0) rfl dX12_readText_29 rfl ?_
  refine fr_iconst (v := 0) (by decide) dX12_readText_30 rfl ?_
  refine fr_putI dX12_readText_31 rfl fp_X12_173 k_o ?_
  refine fr_memI (fun I6 hI6 => ?_)
  have h := h I6 hI6
  refine fr_aload_n (i := 0) (q := 0) rfl dX12_readText_34 rfl ?_
  refine fr_iconst (v := 0) (by decide) dX12_readText_35 rfl ?_
  refine fr_putI dX12_readText_36 rfl fp_X12_251 k_o ?_
  refine fr_memI (fun I7 hI7 => ?_)
  have h := h I7 hI7
  refine fr_aload_n (i := 0) (q := 0) rfl dX12_readText_39 rfl ?_
  refine fr_iconst (v := 0) (by decide) dX12_readText_40 rfl ?_
  refine fr_putI dX12_readText_41 rfl fp_X12_123 k_o ?_
  refine fr_memI (fun I8 hI8 => ?_)
  have h := h I8 hI8
  refine fr_aload_n (i := 0) (q := 0) rfl dX12_readText_44 rfl ?_
  obtain ⟨I9, L10, hc11, h⟩ := h
  refine fr_callV2 (ν := mu_X12_nextToken) (st2 := []) (As := []) (st := []) (v := none) (M1 := (Z, I9, L10)) dX12_readText_45 rfl ml_X12_194 mo_X12_nextToken mi_X12_nextToken (ci := 12) rfl rfl k_o (Nat.le_of_ble_eq_true rfl) rfl rfl (Nat.le_of_ble_eq_true rfl) hc11 rfl ?_
  exact fr_sub [0] rfl h
theorem wp_X12_readText_48 {g : GE} {Z : Zs} {I : Nat → Nat → Int32} {L : Nat → Nat → Int64} {r : Option Value} {M' : Mem} {o : Nat} (k_o : KM Z o 12) (h : (((I o 11) = 0 → (r = some (.int 0) ∧ M' = (Z, I, L))) ∧ (¬ (I o 11) = 0 → (∃ (v1 : Int32) (I2 : Nat → Nat → Int32) (L3 : Nat → Nat → Int64), Cl g 7 mu_X12_clause [rf g o] (Z, I, L) (some (.int v1)) (Z, I2, L3) ∧ ((v1 = 0 → Lp_X12_readText_48 g 8 o (Z, I2, L3) r M') ∧ (¬ v1 = 0 → (r = some (.int v1) ∧ M' = (Z, I2, L3)))))))) : Lp_X12_readText_48 g 8 o (Z, I, L) r M' := by
  refine fr_aload_n (i := 0) (q := 0) rfl dX12_readText_48 rfl ?_
  refine fr_getI dX12_readText_49 rfl fl_X12_132 k_o ?_
  refine fr_if_eq (tgt := 69) dX12_readText_52 (by decide) rfl (fun hc => ?_) (fun hc => ?_)
  · have h := h.1 hc
    refine fr_iconst (v := 0) (by decide) dX12_readText_69 rfl ?_
    exact fr_iret rfl dX12_readText_70 h.1 h.2
  · have h := h.2 hc
    refine fr_aload_n (i := 0) (q := 0) rfl dX12_readText_55 rfl ?_
    obtain ⟨v1, I2, L3, hc4, h⟩ := h
    refine fr_callV2 (ν := mu_X12_clause) (st2 := [.int v1]) (As := []) (st := []) (v := (some (.int v1))) (M1 := (Z, I2, L3)) dX12_readText_56 rfl ml_X12_257 mo_X12_clause mi_X12_clause (ci := 12) rfl rfl k_o (Nat.le_of_ble_eq_true rfl) rfl rfl (Nat.le_of_ble_eq_true rfl) hc4 rfl ?_
    refine fr_istore_n (i := 1) (lv' := [(1, .int v1), (0, rf g o)]) dX12_readText_59 rfl (by decide) rfl ?_
    refine fr_iload_n (i := 1) (q := 0) rfl dX12_readText_60 rfl ?_
    refine fr_if_eq (tgt := 66) dX12_readText_61 (by decide) rfl (fun hc => ?_) (fun hc => ?_)
    · have h := h.1 hc
      refine fr_goto (n := 48) dX12_readText_66 (by decide) ?_
      exact fr_sub [1] rfl h
    · have h := h.2 hc
      refine fr_iload_n (i := 1) (q := 0) rfl dX12_readText_64 rfl ?_
      exact fr_iret rfl dX12_readText_65 h.1 h.2
theorem cp_X12_text {g : GE} {Z : Zs} {I : Nat → Nat → Int32} {L : Nat → Nat → Int64} {r : Option Value} {M' : Mem} {o : Nat} {o_a : Nat} (k_o : KM Z o 12) (r_o_a : Z.2.1 o 0 = some o_a) (k_o_a : KM Z o_a 13) (h : (vp_in 1 (Z.2.2.1 o_a) ∧ ((¬ (I o_a (1 : Int32).toNatClampNeg) = 4 → (∃ (v2 : Int32) (I3 : Nat → Nat → Int32) (L4 : Nat → Nat → Int64), Cl g 8 mu_X12_readText [rf g o] (Z, I, L) (some (.int v2)) (Z, I3, L4) ∧ (∀ I6 : Nat → Nat → Int32, I6 = rw1 I3 o (upd (I3 o) 7 v2) → ((¬ (I6 o 7) = 0 → (∀ I7 : Nat → Nat → Int32, I7 = rw1 I6 o (upd (I6 o) 8 (I6 o 10)) → (∀ I8 : Nat → Nat → Int32, I8 = rw1 I7 o (upd (I7 o) 6 0) → (((I8 o 7) = 0 → (vp_in 1 (Z.2.2.1 o_a) ∧ (vp_in 1 (Z.2.2.1 o_a) ∧ (∀ I11 : Nat → Nat → Int32, I11 = rw1 I8 o_a (upd (I8 o_a) (1 : Int32).toNatClampNeg ((I8 o_a (1 : Int32).toNatClampNeg) + 1)) → (vp_in 1 (Z.2.2.1 o_a) ∧ (r = some (.int ((I11 o_a (1 : Int32).toNatClampNeg) - 1)) ∧ M' = (Z, I11, L4))))))) ∧ (¬ (I8 o 7) = 0 → (r = some (.int ((-1))) ∧ M' = (Z, I8, L4))))))) ∧ ((I6 o 7) = 0 → (∀ I13 : Nat → Nat → Int32, I13 = rw1 I6 o (upd (I6 o) 8 ((-1))) → (∀ I14 : Nat → Nat → Int32, I14 = rw1 I13 o (upd (I13 o) 6 0) → (((I14 o 7) = 0 → (vp_in 1 (Z.2.2.1 o_a) ∧ (vp_in 1 (Z.2.2.1 o_a) ∧ (∀ I17 : Nat → Nat → Int32, I17 = rw1 I14 o_a (upd (I14 o_a) (1 : Int32).toNatClampNeg ((I14 o_a (1 : Int32).toNatClampNeg) + 1)) → (vp_in 1 (Z.2.2.1 o_a) ∧ (r = some (.int ((I17 o_a (1 : Int32).toNatClampNeg) - 1)) ∧ M' = (Z, I17, L4))))))) ∧ (¬ (I14 o 7) = 0 → (r = some (.int ((-1))) ∧ M' = (Z, I14, L4))))))))))) ∧ ((I o_a (1 : Int32).toNatClampNeg) = 4 → (r = some (.int ((-1))) ∧ M' = (Z, I, L)))))) : Cl g 9 mu_X12_text [rf g o] (Z, I, L) r M' := by
  refine cl_of (lv := [(0, rf g o)]) (by decide) (Nat.le_of_ble_eq_true rfl) rfl ?_
  refine fr_aload_n (i := 0) (q := 0) rfl dX12_text_0 rfl ?_
  refine fr_getR dX12_text_1 rfl fl_X12_7 k_o r_o_a ?_
  refine fr_iconst (v := 1) (by decide) dX12_text_4 rfl ?_
  obtain ⟨hz1, h⟩ := h
  refine fr_iald dX12_text_5 rfl k_o_a hz1 ?_
  refine fr_iconst (v := 4) (by decide) dX12_text_6 rfl ?_
  refine fr_icmp_ne (tgt := 12) dX12_text_7 (by decide) rfl (fun hc => ?_) (fun hc => ?_)
  · have h := h.1 hc
    refine fr_aload_n (i := 0) (q := 0) rfl dX12_text_12 rfl ?_
    refine fr_aload_n (i := 0) (q := 0) rfl dX12_text_13 rfl ?_
    obtain ⟨v2, I3, L4, hc5, h⟩ := h
    refine fr_callV2 (ν := mu_X12_readText) (st2 := [.int v2, rf g o]) (As := []) (st := [rf g o]) (v := (some (.int v2))) (M1 := (Z, I3, L4)) dX12_text_14 rfl ml_X12_260 mo_X12_readText mi_X12_readText (ci := 12) rfl rfl k_o (Nat.le_of_ble_eq_true rfl) rfl rfl (Nat.le_of_ble_eq_true rfl) hc5 rfl ?_
    refine fr_putI dX12_text_17 rfl fp_X12_22 k_o ?_
    refine fr_memI (fun I6 hI6 => ?_)
    have h := h I6 hI6
    refine fr_aload_n (i := 0) (q := 0) rfl dX12_text_20 rfl ?_
    refine fr_aload_n (i := 0) (q := 0) rfl dX12_text_21 rfl ?_
    refine fr_getI dX12_text_22 rfl fl_X12_22 k_o ?_
    refine fr_if_ne (tgt := 32) dX12_text_25 (by decide) rfl (fun hc => ?_) (fun hc => ?_)
    · have h := h.1 hc
      refine fr_aload_n (i := 0) (q := 0) rfl dX12_text_32 rfl ?_
      refine fr_getI dX12_text_33 rfl fl_X12_129 k_o ?_
      refine fr_putI dX12_text_36 rfl fp_X12_26 k_o ?_
      refine fr_memI (fun I7 hI7 => ?_)
      have h := h I7 hI7
      refine fr_aload_n (i := 0) (q := 0) rfl dX12_text_39 rfl ?_
      refine fr_iconst (v := 0) (by decide) dX12_text_40 rfl ?_
      refine fr_putI dX12_text_41 rfl fp_X12_116 k_o ?_
      refine fr_memI (fun I8 hI8 => ?_)
      have h := h I8 hI8
      refine fr_aload_n (i := 0) (q := 0) rfl dX12_text_44 rfl ?_
      refine fr_getI dX12_text_45 rfl fl_X12_22 k_o ?_
      refine fr_if_eq (tgt := 53) dX12_text_48 (by decide) rfl (fun hc => ?_) (fun hc => ?_)
      · have h := h.1 hc
        refine fr_aload_n (i := 0) (q := 0) rfl dX12_text_53 rfl ?_
        refine fr_getR dX12_text_54 rfl fl_X12_7 k_o r_o_a ?_
        refine fr_iconst (v := 1) (by decide) dX12_text_57 rfl ?_
        refine fr_dup2 rfl rfl dX12_text_58 rfl ?_
        obtain ⟨hz9, h⟩ := h
        refine fr_iald dX12_text_59 rfl k_o_a hz9 ?_
        refine fr_iconst (v := 1) (by decide) dX12_text_60 rfl ?_
        refine fr_iadd dX12_text_61 rfl ?_
        obtain ⟨hz10, h⟩ := h
        refine fr_iast dX12_text_62 rfl k_o_a hz10 ?_
        refine fr_memI (fun I11 hI11 => ?_)
        have h := h I11 hI11
        refine fr_aload_n (i := 0) (q := 0) rfl dX12_text_63 rfl ?_
        refine fr_getR dX12_text_64 rfl fl_X12_7 k_o r_o_a ?_
        refine fr_iconst (v := 1) (by decide) dX12_text_67 rfl ?_
        obtain ⟨hz12, h⟩ := h
        refine fr_iald dX12_text_68 rfl k_o_a hz12 ?_
        refine fr_iconst (v := 1) (by decide) dX12_text_69 rfl ?_
        refine fr_isub dX12_text_70 rfl ?_
        exact fr_iret rfl dX12_text_71 h.1 h.2
      · have h := h.2 hc
        refine fr_iconst (v := (-1)) (by decide) dX12_text_51 rfl ?_
        exact fr_iret rfl dX12_text_52 h.1 h.2
    · have h := h.2 hc
      refine fr_iconst (v := (-1)) (by decide) dX12_text_28 rfl ?_
      refine fr_goto (n := 36) dX12_text_29 (by decide) ?_
      refine fr_putI dX12_text_36 rfl fp_X12_26 k_o ?_
      refine fr_memI (fun I13 hI13 => ?_)
      have h := h I13 hI13
      refine fr_aload_n (i := 0) (q := 0) rfl dX12_text_39 rfl ?_
      refine fr_iconst (v := 0) (by decide) dX12_text_40 rfl ?_
      refine fr_putI dX12_text_41 rfl fp_X12_116 k_o ?_
      refine fr_memI (fun I14 hI14 => ?_)
      have h := h I14 hI14
      refine fr_aload_n (i := 0) (q := 0) rfl dX12_text_44 rfl ?_
      refine fr_getI dX12_text_45 rfl fl_X12_22 k_o ?_
      refine fr_if_eq (tgt := 53) dX12_text_48 (by decide) rfl (fun hc => ?_) (fun hc => ?_)
      · have h := h.1 hc
        refine fr_aload_n (i := 0) (q := 0) rfl dX12_text_53 rfl ?_
        refine fr_getR dX12_text_54 rfl fl_X12_7 k_o r_o_a ?_
        refine fr_iconst (v := 1) (by decide) dX12_text_57 rfl ?_
        refine fr_dup2 rfl rfl dX12_text_58 rfl ?_
        obtain ⟨hz15, h⟩ := h
        refine fr_iald dX12_text_59 rfl k_o_a hz15 ?_
        refine fr_iconst (v := 1) (by decide) dX12_text_60 rfl ?_
        refine fr_iadd dX12_text_61 rfl ?_
        obtain ⟨hz16, h⟩ := h
        refine fr_iast dX12_text_62 rfl k_o_a hz16 ?_
        refine fr_memI (fun I17 hI17 => ?_)
        have h := h I17 hI17
        refine fr_aload_n (i := 0) (q := 0) rfl dX12_text_63 rfl ?_
        refine fr_getR dX12_text_64 rfl fl_X12_7 k_o r_o_a ?_
        refine fr_iconst (v := 1) (by decide) dX12_text_67 rfl ?_
        obtain ⟨hz18, h⟩ := h
        refine fr_iald dX12_text_68 rfl k_o_a hz18 ?_
        refine fr_iconst (v := 1) (by decide) dX12_text_69 rfl ?_
        refine fr_isub dX12_text_70 rfl ?_
        exact fr_iret rfl dX12_text_71 h.1 h.2
      · have h := h.2 hc
        refine fr_iconst (v := (-1)) (by decide) dX12_text_51 rfl ?_
        exact fr_iret rfl dX12_text_52 h.1 h.2
  · have h := h.2 hc
    refine fr_iconst (v := (-1)) (by decide) dX12_text_10 rfl ?_
    exact fr_iret rfl dX12_text_11 h.1 h.2
theorem cp_X12_fault {g : GE} {Z : Zs} {I : Nat → Nat → Int32} {L : Nat → Nat → Int64} {r : Option Value} {M' : Mem} {o : Nat} {x1 : Int32} (k_o : KM Z o 12) (h : ((¬ x1 = 0 → ((¬ x1 = 1 → (r = some (.int ((-1))) ∧ M' = (Z, I, L))) ∧ (x1 = 1 → (r = some (.int (I o 8)) ∧ M' = (Z, I, L))))) ∧ (x1 = 0 → (r = some (.int (I o 7)) ∧ M' = (Z, I, L))))) : Cl g 1 mu_X12_fault [rf g o, .int x1] (Z, I, L) r M' := by
  refine cl_of (lv := [(0, rf g o), (1, .int x1)]) (by decide) (Nat.le_of_ble_eq_true rfl) rfl ?_
  refine fr_iload_n (i := 1) (q := 1) rfl dX12_fault_0 rfl ?_
  refine fr_if_ne (tgt := 11) dX12_fault_1 (by decide) rfl (fun hc => ?_) (fun hc => ?_)
  · have h := h.1 hc
    refine fr_iload_n (i := 1) (q := 1) rfl dX12_fault_11 rfl ?_
    refine fr_iconst (v := 1) (by decide) dX12_fault_12 rfl ?_
    refine fr_icmp_ne (tgt := 23) dX12_fault_13 (by decide) rfl (fun hc => ?_) (fun hc => ?_)
    · have h := h.1 hc
      refine fr_iconst (v := (-1)) (by decide) dX12_fault_23 rfl ?_
      exact fr_iret rfl dX12_fault_24 h.1 h.2
    · have h := h.2 hc
      refine fr_aload_n (i := 0) (q := 0) rfl dX12_fault_16 rfl ?_
      refine fr_getI dX12_fault_17 rfl fl_X12_26 k_o ?_
      refine fr_goto (n := 24) dX12_fault_20 (by decide) ?_
      exact fr_iret rfl dX12_fault_24 h.1 h.2
  · have h := h.2 hc
    refine fr_aload_n (i := 0) (q := 0) rfl dX12_fault_4 rfl ?_
    refine fr_getI dX12_fault_5 rfl fl_X12_22 k_o ?_
    refine fr_goto (n := 24) dX12_fault_8 (by decide) ?_
    exact fr_iret rfl dX12_fault_24 h.1 h.2
theorem cp_X12_clip {g : GE} {Z : Zs} {I : Nat → Nat → Int32} {L : Nat → Nat → Int64} {r : Option Value} {M' : Mem} {x0 : Int64}  (h : (((lg_cmp x0 1000000) ≤ 0 → ((0 ≤ (lg_cmp x0 ((-1000000))) → (r = some (.long x0) ∧ M' = (Z, I, L))) ∧ (¬ 0 ≤ (lg_cmp x0 ((-1000000))) → (r = some (.long ((-1000000))) ∧ M' = (Z, I, L))))) ∧ (¬ (lg_cmp x0 1000000) ≤ 0 → (r = some (.long 1000000) ∧ M' = (Z, I, L))))) : Cl g 1 mu_X12_clip [.long x0] (Z, I, L) r M' := by
  refine cl_of (lv := [(0, .long x0)]) (by decide) (Nat.le_of_ble_eq_true rfl) rfl ?_
  refine fr_lload_n (i := 0) (q := 0) rfl dX12_clip_0 rfl ?_
  refine fr_ldc2 (v := 1000000) kc_X12_263 dX12_clip_1 rfl ?_
  refine fr_lcmp dX12_clip_4 rfl ?_
  refine fr_if_le (tgt := 14) dX12_clip_5 (by decide) rfl (fun hc => ?_) (fun hc => ?_)
  · have h := h.1 hc
    refine fr_lload_n (i := 0) (q := 0) rfl dX12_clip_14 rfl ?_
    refine fr_ldc2 (v := (-1000000)) kc_X12_265 dX12_clip_15 rfl ?_
    refine fr_lcmp dX12_clip_18 rfl ?_
    refine fr_if_ge (tgt := 28) dX12_clip_19 (by decide) rfl (fun hc => ?_) (fun hc => ?_)
    · have h := h.1 hc
      refine fr_lload_n (i := 0) (q := 0) rfl dX12_clip_28 rfl ?_
      exact fr_lret rfl dX12_clip_29 h.1 h.2
    · have h := h.2 hc
      refine fr_ldc2 (v := (-1000000)) kc_X12_265 dX12_clip_22 rfl ?_
      refine fr_goto (n := 29) dX12_clip_25 (by decide) ?_
      exact fr_lret rfl dX12_clip_29 h.1 h.2
  · have h := h.2 hc
    refine fr_ldc2 (v := 1000000) kc_X12_263 dX12_clip_8 rfl ?_
    refine fr_goto (n := 29) dX12_clip_11 (by decide) ?_
    exact fr_lret rfl dX12_clip_29 h.1 h.2
theorem cp_X12_two {g : GE} {Z : Zs} {I : Nat → Nat → Int32} {L : Nat → Nat → Int64} {r : Option Value} {M' : Mem} {x0 : Int32} {x1 : Int64} {x3 : Int64}  (h : ((x0 < 3 ∨ 5 < x0 → ((¬ (lg_cmp x3 0) = 0 → (¬ x3 = 0 ∧ (∃ (v2 : Int64), Cl g 1 mu_X12_clip [.long (x1 / x3)] (Z, I, L) (some (.long v2)) (Z, I, L) ∧ (r = some (.long v2) ∧ M' = (Z, I, L))))) ∧ ((lg_cmp x3 0) = 0 → (r = some (.long 0) ∧ M' = (Z, I, L))))) ∧ (x0 = 3 → (∃ (v4 : Int64), Cl g 1 mu_X12_clip [.long (x1 + x3)] (Z, I, L) (some (.long v4)) (Z, I, L) ∧ (r = some (.long v4) ∧ M' = (Z, I, L)))) ∧ (x0 = 4 → (∃ (v6 : Int64), Cl g 1 mu_X12_clip [.long (x1 - x3)] (Z, I, L) (some (.long v6)) (Z, I, L) ∧ (r = some (.long v6) ∧ M' = (Z, I, L)))) ∧ (x0 = 5 → (∃ (v8 : Int64), Cl g 1 mu_X12_clip [.long (x1 * x3)] (Z, I, L) (some (.long v8)) (Z, I, L) ∧ (r = some (.long v8) ∧ M' = (Z, I, L)))))) : Cl g 2 mu_X12_two [.int x0, .long x1, .long x3] (Z, I, L) r M' := by
  refine cl_of (lv := [(0, .int x0), (1, .long x1), (3, .long x3)]) (by decide) (Nat.le_of_ble_eq_true rfl) rfl ?_
  refine fr_iload_n (i := 0) (q := 0) rfl dX12_two_0 rfl ?_
  rcases sw_cases (x := x0) (lo := 3) (hi := 5) (k := 2) (by decide) (by decide) with hs | ⟨kk, hkk, hs⟩
  · have h := h.1 hs
    refine fr_tabD (n := 49) dX12_two_1 hs (by decide) (by decide) (by decide) ?_
    refine fr_lload_n (i := 3) (q := 2) rfl dX12_two_49 rfl ?_
    refine fr_lconst (v := 0) (by decide) dX12_two_50 rfl ?_
    refine fr_lcmp dX12_two_51 rfl ?_
    refine fr_if_ne (tgt := 59) dX12_two_52 (by decide) rfl (fun hc => ?_) (fun hc => ?_)
    · have h := h.1 hc
      refine fr_lload_n (i := 1) (q := 1) rfl dX12_two_59 rfl ?_
      refine fr_lload_n (i := 3) (q := 2) rfl dX12_two_60 rfl ?_
      obtain ⟨hz1, h⟩ := h
      refine fr_ldiv hz1 dX12_two_61 rfl ?_
      obtain ⟨v2, hc3, h⟩ := h
      refine fr_callS2 (ν := mu_X12_clip) (st2 := [.long v2]) (As := [.long (x1 / x3)]) (st := []) (v := (some (.long v2))) (M1 := (Z, I, L)) dX12_two_62 rfl ml_X12_267 mo_X12_clip ms_X12_clip (Nat.le_of_ble_eq_true rfl) rfl rfl (Nat.le_of_ble_eq_true rfl) hc3 rfl ?_
      exact fr_lret rfl dX12_two_65 h.1 h.2
    · have h := h.2 hc
      refine fr_lconst (v := 0) (by decide) dX12_two_55 rfl ?_
      refine fr_goto (n := 65) dX12_two_56 (by decide) ?_
      exact fr_lret rfl dX12_two_65 h.1 h.2
  · have h := h.2
    match kk, hkk, hs with
    | 0, _, hs =>
      have hs : x0 = 3 := hs.trans (by decide)
      have h := h.1 hs
      refine fr_tabK (n := 28) (y := 3) hs dX12_two_1 (by decide) (by decide) rfl (by decide) ?_
      refine fr_lload_n (i := 1) (q := 1) rfl dX12_two_28 rfl ?_
      refine fr_lload_n (i := 3) (q := 2) rfl dX12_two_29 rfl ?_
      refine fr_ladd dX12_two_30 rfl ?_
      obtain ⟨v4, hc5, h⟩ := h
      refine fr_callS2 (ν := mu_X12_clip) (st2 := [.long v4]) (As := [.long (x1 + x3)]) (st := []) (v := (some (.long v4))) (M1 := (Z, I, L)) dX12_two_31 rfl ml_X12_267 mo_X12_clip ms_X12_clip (Nat.le_of_ble_eq_true rfl) rfl rfl (Nat.le_of_ble_eq_true rfl) hc5 rfl ?_
      exact fr_lret rfl dX12_two_34 h.1 h.2
    | 1, _, hs =>
      have hs : x0 = 4 := hs.trans (by decide)
      have h := h.2.1 hs
      refine fr_tabK (n := 35) (y := 4) hs dX12_two_1 (by decide) (by decide) rfl (by decide) ?_
      refine fr_lload_n (i := 1) (q := 1) rfl dX12_two_35 rfl ?_
      refine fr_lload_n (i := 3) (q := 2) rfl dX12_two_36 rfl ?_
      refine fr_lsub dX12_two_37 rfl ?_
      obtain ⟨v6, hc7, h⟩ := h
      refine fr_callS2 (ν := mu_X12_clip) (st2 := [.long v6]) (As := [.long (x1 - x3)]) (st := []) (v := (some (.long v6))) (M1 := (Z, I, L)) dX12_two_38 rfl ml_X12_267 mo_X12_clip ms_X12_clip (Nat.le_of_ble_eq_true rfl) rfl rfl (Nat.le_of_ble_eq_true rfl) hc7 rfl ?_
      exact fr_lret rfl dX12_two_41 h.1 h.2
    | 2, _, hs =>
      have hs : x0 = 5 := hs.trans (by decide)
      have h := h.2.2 hs
      refine fr_tabK (n := 42) (y := 5) hs dX12_two_1 (by decide) (by decide) rfl (by decide) ?_
      refine fr_lload_n (i := 1) (q := 1) rfl dX12_two_42 rfl ?_
      refine fr_lload_n (i := 3) (q := 2) rfl dX12_two_43 rfl ?_
      refine fr_lmul dX12_two_44 rfl ?_
      obtain ⟨v8, hc9, h⟩ := h
      refine fr_callS2 (ν := mu_X12_clip) (st2 := [.long v8]) (As := [.long (x1 * x3)]) (st := []) (v := (some (.long v8))) (M1 := (Z, I, L)) dX12_two_45 rfl ml_X12_267 mo_X12_clip ms_X12_clip (Nat.le_of_ble_eq_true rfl) rfl rfl (Nat.le_of_ble_eq_true rfl) hc9 rfl ?_
      exact fr_lret rfl dX12_two_48 h.1 h.2
    | kk + 3, hkk, _ => exact absurd hkk (by omega)
theorem cp_X12_isAsked {g : GE} {Z : Zs} {I : Nat → Nat → Int32} {L : Nat → Nat → Int64} {r : Option Value} {M' : Mem} {x0 : Int32} {x1 : Int64} {x3 : Int64}  (h : ((¬ x0 = 10 → ((¬ x0 = 11 → ((¬ x0 = 12 → ((¬ x0 = 13 → ((¬ x0 = 14 → (((lg_cmp x1 x3) = 0 → (r = some (.int 0) ∧ M' = (Z, I, L))) ∧ (¬ (lg_cmp x1 x3) = 0 → (r = some (.int 1) ∧ M' = (Z, I, L))))) ∧ (x0 = 14 → ((¬ (lg_cmp x1 x3) = 0 → (r = some (.int 0) ∧ M' = (Z, I, L))) ∧ ((lg_cmp x1 x3) = 0 → (r = some (.int 1) ∧ M' = (Z, I, L))))))) ∧ (x0 = 13 → (((lg_cmp x1 x3) < 0 → (r = some (.int 0) ∧ M' = (Z, I, L))) ∧ (¬ (lg_cmp x1 x3) < 0 → (r = some (.int 1) ∧ M' = (Z, I, L))))))) ∧ (x0 = 12 → (((lg_cmp x1 x3) ≤ 0 → (r = some (.int 0) ∧ M' = (Z, I, L))) ∧ (¬ (lg_cmp x1 x3) ≤ 0 → (r = some (.int 1) ∧ M' = (Z, I, L))))))) ∧ (x0 = 11 → ((0 < (lg_cmp x1 x3) → (r = some (.int 0) ∧ M' = (Z, I, L))) ∧ (¬ 0 < (lg_cmp x1 x3) → (r = some (.int 1) ∧ M' = (Z, I, L))))))) ∧ (x0 = 10 → ((0 ≤ (lg_cmp x1 x3) → (r = some (.int 0) ∧ M' = (Z, I, L))) ∧ (¬ 0 ≤ (lg_cmp x1 x3) → (r = some (.int 1) ∧ M' = (Z, I, L))))))) : Cl g 1 mu_X12_isAsked [.int x0, .long x1, .long x3] (Z, I, L) r M' := by
  refine cl_of (lv := [(0, .int x0), (1, .long x1), (3, .long x3)]) (by decide) (Nat.le_of_ble_eq_true rfl) rfl ?_
  refine fr_iload_n (i := 0) (q := 0) rfl dX12_isAsked_0 rfl ?_
  refine fr_bipush (v := 10) (by decide) dX12_isAsked_1 rfl ?_
  refine fr_icmp_ne (tgt := 20) dX12_isAsked_3 (by decide) rfl (fun hc => ?_) (fun hc => ?_)
  · have h := h.1 hc
    refine fr_iload_n (i := 0) (q := 0) rfl dX12_isAsked_20 rfl ?_
    refine fr_bipush (v := 11) (by decide) dX12_isAsked_21 rfl ?_
    refine fr_icmp_ne (tgt := 40) dX12_isAsked_23 (by decide) rfl (fun hc => ?_) (fun hc => ?_)
    · have h := h.1 hc
      refine fr_iload_n (i := 0) (q := 0) rfl dX12_isAsked_40 rfl ?_
      refine fr_bipush (v := 12) (by decide) dX12_isAsked_41 rfl ?_
      refine fr_icmp_ne (tgt := 60) dX12_isAsked_43 (by decide) rfl (fun hc => ?_) (fun hc => ?_)
      · have h := h.1 hc
        refine fr_iload_n (i := 0) (q := 0) rfl dX12_isAsked_60 rfl ?_
        refine fr_bipush (v := 13) (by decide) dX12_isAsked_61 rfl ?_
        refine fr_icmp_ne (tgt := 80) dX12_isAsked_63 (by decide) rfl (fun hc => ?_) (fun hc => ?_)
        · have h := h.1 hc
          refine fr_iload_n (i := 0) (q := 0) rfl dX12_isAsked_80 rfl ?_
          refine fr_bipush (v := 14) (by decide) dX12_isAsked_81 rfl ?_
          refine fr_icmp_ne (tgt := 100) dX12_isAsked_83 (by decide) rfl (fun hc => ?_) (fun hc => ?_)
          · have h := h.1 hc
            refine fr_lload_n (i := 1) (q := 1) rfl dX12_isAsked_100 rfl ?_
            refine fr_lload_n (i := 3) (q := 2) rfl dX12_isAsked_101 rfl ?_
            refine fr_lcmp dX12_isAsked_102 rfl ?_
            refine fr_if_eq (tgt := 110) dX12_isAsked_103 (by decide) rfl (fun hc => ?_) (fun hc => ?_)
            · have h := h.1 hc
              refine fr_iconst (v := 0) (by decide) dX12_isAsked_110 rfl ?_
              exact fr_zret (by decide) rfl dX12_isAsked_111 h.1 h.2
            · have h := h.2 hc
              refine fr_iconst (v := 1) (by decide) dX12_isAsked_106 rfl ?_
              refine fr_goto (n := 111) dX12_isAsked_107 (by decide) ?_
              exact fr_zret (by decide) rfl dX12_isAsked_111 h.1 h.2
          · have h := h.2 hc
            refine fr_lload_n (i := 1) (q := 1) rfl dX12_isAsked_86 rfl ?_
            refine fr_lload_n (i := 3) (q := 2) rfl dX12_isAsked_87 rfl ?_
            refine fr_lcmp dX12_isAsked_88 rfl ?_
            refine fr_if_ne (tgt := 96) dX12_isAsked_89 (by decide) rfl (fun hc => ?_) (fun hc => ?_)
            · have h := h.1 hc
              refine fr_iconst (v := 0) (by decide) dX12_isAsked_96 rfl ?_
              refine fr_goto (n := 111) dX12_isAsked_97 (by decide) ?_
              exact fr_zret (by decide) rfl dX12_isAsked_111 h.1 h.2
            · have h := h.2 hc
              refine fr_iconst (v := 1) (by decide) dX12_isAsked_92 rfl ?_
              refine fr_goto (n := 111) dX12_isAsked_93 (by decide) ?_
              exact fr_zret (by decide) rfl dX12_isAsked_111 h.1 h.2
        · have h := h.2 hc
          refine fr_lload_n (i := 1) (q := 1) rfl dX12_isAsked_66 rfl ?_
          refine fr_lload_n (i := 3) (q := 2) rfl dX12_isAsked_67 rfl ?_
          refine fr_lcmp dX12_isAsked_68 rfl ?_
          refine fr_if_lt (tgt := 76) dX12_isAsked_69 (by decide) rfl (fun hc => ?_) (fun hc => ?_)
          · have h := h.1 hc
            refine fr_iconst (v := 0) (by decide) dX12_isAsked_76 rfl ?_
            refine fr_goto (n := 111) dX12_isAsked_77 (by decide) ?_
            exact fr_zret (by decide) rfl dX12_isAsked_111 h.1 h.2
          · have h := h.2 hc
            refine fr_iconst (v := 1) (by decide) dX12_isAsked_72 rfl ?_
            refine fr_goto (n := 111) dX12_isAsked_73 (by decide) ?_
            exact fr_zret (by decide) rfl dX12_isAsked_111 h.1 h.2
      · have h := h.2 hc
        refine fr_lload_n (i := 1) (q := 1) rfl dX12_isAsked_46 rfl ?_
        refine fr_lload_n (i := 3) (q := 2) rfl dX12_isAsked_47 rfl ?_
        refine fr_lcmp dX12_isAsked_48 rfl ?_
        refine fr_if_le (tgt := 56) dX12_isAsked_49 (by decide) rfl (fun hc => ?_) (fun hc => ?_)
        · have h := h.1 hc
          refine fr_iconst (v := 0) (by decide) dX12_isAsked_56 rfl ?_
          refine fr_goto (n := 111) dX12_isAsked_57 (by decide) ?_
          exact fr_zret (by decide) rfl dX12_isAsked_111 h.1 h.2
        · have h := h.2 hc
          refine fr_iconst (v := 1) (by decide) dX12_isAsked_52 rfl ?_
          refine fr_goto (n := 111) dX12_isAsked_53 (by decide) ?_
          exact fr_zret (by decide) rfl dX12_isAsked_111 h.1 h.2
    · have h := h.2 hc
      refine fr_lload_n (i := 1) (q := 1) rfl dX12_isAsked_26 rfl ?_
      refine fr_lload_n (i := 3) (q := 2) rfl dX12_isAsked_27 rfl ?_
      refine fr_lcmp dX12_isAsked_28 rfl ?_
      refine fr_if_gt (tgt := 36) dX12_isAsked_29 (by decide) rfl (fun hc => ?_) (fun hc => ?_)
      · have h := h.1 hc
        refine fr_iconst (v := 0) (by decide) dX12_isAsked_36 rfl ?_
        refine fr_goto (n := 111) dX12_isAsked_37 (by decide) ?_
        exact fr_zret (by decide) rfl dX12_isAsked_111 h.1 h.2
      · have h := h.2 hc
        refine fr_iconst (v := 1) (by decide) dX12_isAsked_32 rfl ?_
        refine fr_goto (n := 111) dX12_isAsked_33 (by decide) ?_
        exact fr_zret (by decide) rfl dX12_isAsked_111 h.1 h.2
  · have h := h.2 hc
    refine fr_lload_n (i := 1) (q := 1) rfl dX12_isAsked_6 rfl ?_
    refine fr_lload_n (i := 3) (q := 2) rfl dX12_isAsked_7 rfl ?_
    refine fr_lcmp dX12_isAsked_8 rfl ?_
    refine fr_if_ge (tgt := 16) dX12_isAsked_9 (by decide) rfl (fun hc => ?_) (fun hc => ?_)
    · have h := h.1 hc
      refine fr_iconst (v := 0) (by decide) dX12_isAsked_16 rfl ?_
      refine fr_goto (n := 111) dX12_isAsked_17 (by decide) ?_
      exact fr_zret (by decide) rfl dX12_isAsked_111 h.1 h.2
    · have h := h.2 hc
      refine fr_iconst (v := 1) (by decide) dX12_isAsked_12 rfl ?_
      refine fr_goto (n := 111) dX12_isAsked_13 (by decide) ?_
      exact fr_zret (by decide) rfl dX12_isAsked_111 h.1 h.2
abbrev Lp_X12_work_38 (g : GE) (d : Nat) (o : Nat) (u3 : Int32) (u4 : Int32) (u5 : Int32) (u6 : Int32) (u7 : Int32) (M : Mem) (r : Option Value) (M' : Mem) : Prop := Fr g d mu_X12_work 38 [(0, rf g o), (3, .int u3), (4, .int u4), (5, .int u5), (6, .int u6), (7, .int u7)] [] M r M'
theorem cp_X12_work {g : GE} {Z : Zs} {I : Nat → Nat → Int32} {L : Nat → Nat → Int64} {r : Option Value} {M' : Mem} {o : Nat} {x1 : Int32} {x2 : Int32} {o_texts : Nat} (k_o : KM Z o 12) (r_o_texts : Z.2.1 o 4 = some o_texts) (k_o_texts : KM Z o_texts 13) (h : (∀ y1 : Int32, y1 = (((620 * x1) + 1) + (3 * x2)) → (∀ y2 : Int32, y2 = ((620 * x1) + 15) → (vp_in (y1 + 1) (Z.2.2.1 o_texts) ∧ (∀ y4 : Int32, y4 = (I o_texts (y1 + 1).toNatClampNeg) → Lp_X12_work_38 g 3 o y1 y2 0 0 y4 (Z, I, L) r M'))))) : Cl g 3 mu_X12_work [rf g o, .int x1, .int x2] (Z, I, L) r M' := by
  refine cl_of (lv := [(0, rf g o), (1, .int x1), (2, .int x2)]) (by decide) (Nat.le_of_ble_eq_true rfl) rfl ?_
  refine fr_sipush (v := 620) (by decide) dX12_work_0 rfl ?_
  refine fr_iload_n (i := 1) (q := 1) rfl dX12_work_3 rfl ?_
  refine fr_imul dX12_work_4 rfl ?_
  refine fr_iconst (v := 1) (by decide) dX12_work_5 rfl ?_
  refine fr_iadd dX12_work_6 rfl ?_
  refine fr_iconst (v := 3) (by decide) dX12_work_7 rfl ?_
  refine fr_iload_n (i := 2) (q := 2) rfl dX12_work_8 rfl ?_
  refine fr_imul dX12_work_9 rfl ?_
  refine fr_iadd dX12_work_10 rfl ?_
  refine fr_topi (fun y1 hy1 => ?_)
  have h := h y1 hy1
  refine fr_istore_n (i := 3) (lv' := [(3, .int y1), (0, rf g o), (1, .int x1), (2, .int x2)]) dX12_work_11 rfl (by decide) rfl ?_
  refine fr_sipush (v := 620) (by decide) dX12_work_12 rfl ?_
  refine fr_iload_n (i := 1) (q := 2) rfl dX12_work_15 rfl ?_
  refine fr_imul dX12_work_16 rfl ?_
  refine fr_bipush (v := 15) (by decide) dX12_work_17 rfl ?_
  refine fr_iadd dX12_work_19 rfl ?_
  refine fr_topi (fun y2 hy2 => ?_)
  have h := h y2 hy2
  refine fr_istore (lv' := [(4, .int y2), (3, .int y1), (0, rf g o), (1, .int x1), (2, .int x2)]) dX12_work_20 rfl (by decide) rfl ?_
  refine fr_iconst (v := 0) (by decide) dX12_work_22 rfl ?_
  refine fr_istore (lv' := [(5, .int 0), (4, .int y2), (3, .int y1), (0, rf g o), (1, .int x1), (2, .int x2)]) dX12_work_23 rfl (by decide) rfl ?_
  refine fr_iconst (v := 0) (by decide) dX12_work_25 rfl ?_
  refine fr_istore (lv' := [(6, .int 0), (5, .int 0), (4, .int y2), (3, .int y1), (0, rf g o), (1, .int x1), (2, .int x2)]) dX12_work_26 rfl (by decide) rfl ?_
  refine fr_aload_n (i := 0) (q := 4) rfl dX12_work_28 rfl ?_
  refine fr_getR dX12_work_29 rfl fl_X12_16 k_o r_o_texts ?_
  refine fr_iload_n (i := 3) (q := 3) rfl dX12_work_32 rfl ?_
  refine fr_iconst (v := 1) (by decide) dX12_work_33 rfl ?_
  refine fr_iadd dX12_work_34 rfl ?_
  obtain ⟨hz3, h⟩ := h
  refine fr_iald dX12_work_35 rfl k_o_texts hz3 ?_
  refine fr_topi (fun y4 hy4 => ?_)
  have h := h y4 hy4
  refine fr_istore (lv' := [(7, .int y4), (6, .int 0), (5, .int 0), (4, .int y2), (3, .int y1), (0, rf g o), (1, .int x1), (2, .int x2)]) dX12_work_36 rfl (by decide) rfl ?_
  exact fr_sub [5, 4, 3, 2, 1, 0] rfl h
abbrev Lp_X12_work_81 (g : GE) (d : Nat) (o : Nat) (u3 : Int32) (u4 : Int32) (u5 : Int32) (u6 : Int32) (u7 : Int32) (u8 : Int32) (u9 : Int32) (M : Mem) (r : Option Value) (M' : Mem) : Prop := Fr g d mu_X12_work 81 [(0, rf g o), (3, .int u3), (4, .int u4), (5, .int u5), (6, .int u6), (7, .int u7), (8, .int u8), (9, .int u9)] [] M r M'
theorem wp_X12_work_38 {g : GE} {Z : Zs} {I : Nat → Nat → Int32} {L : Nat → Nat → Int64} {r : Option Value} {M' : Mem} {o : Nat} {u3 : Int32} {u4 : Int32} {u5 : Int32} {u6 : Int32} {u7 : Int32} {o_texts : Nat} (k_o : KM Z o 12) (r_o_texts : Z.2.1 o 4 = some o_texts) (k_o_texts : KM Z o_texts 13) (h : (vp_in (u3 + 2) (Z.2.2.1 o_texts) ∧ (((I o_texts (u3 + 2).toNatClampNeg) ≤ u7 → (r = none ∧ M' = (Z, I, L))) ∧ (¬ (I o_texts (u3 + 2).toNatClampNeg) ≤ u7 → (vp_in (u4 + (2 * u7)) (Z.2.2.1 o_texts) ∧ (∀ y3 : Int32, y3 = (I o_texts (u4 + (2 * u7)).toNatClampNeg) → (vp_in ((u4 + (2 * u7)) + 1) (Z.2.2.1 o_texts) ∧ (∀ y5 : Int32, y5 = (I o_texts ((u4 + (2 * u7)) + 1).toNatClampNeg) → Lp_X12_work_81 g 3 o u3 u4 u5 u6 u7 y3 y5 (Z, I, L) r M')))))))) : Lp_X12_work_38 g 3 o u3 u4 u5 u6 u7 (Z, I, L) r M' := by
  refine fr_iload (q := 5) rfl dX12_work_38 rfl ?_
  refine fr_aload_n (i := 0) (q := 0) rfl dX12_work_40 rfl ?_
  refine fr_getR dX12_work_41 rfl fl_X12_16 k_o r_o_texts ?_
  refine fr_iload_n (i := 3) (q := 1) rfl dX12_work_44 rfl ?_
  refine fr_iconst (v := 2) (by decide) dX12_work_45 rfl ?_
  refine fr_iadd dX12_work_46 rfl ?_
  obtain ⟨hz1, h⟩ := h
  refine fr_iald dX12_work_47 rfl k_o_texts hz1 ?_
  refine fr_icmp_ge (tgt := 406) dX12_work_48 (by decide) rfl (fun hc => ?_) (fun hc => ?_)
  · have h := h.1 hc
    exact fr_vret rfl dX12_work_406 h.1 h.2
  · have h := h.2 hc
    refine fr_aload_n (i := 0) (q := 0) rfl dX12_work_51 rfl ?_
    refine fr_getR dX12_work_52 rfl fl_X12_16 k_o r_o_texts ?_
    refine fr_iload (q := 2) rfl dX12_work_55 rfl ?_
    refine fr_iconst (v := 2) (by decide) dX12_work_57 rfl ?_
    refine fr_iload (q := 5) rfl dX12_work_58 rfl ?_
    refine fr_imul dX12_work_60 rfl ?_
    refine fr_iadd dX12_work_61 rfl ?_
    obtain ⟨hz2, h⟩ := h
    refine fr_iald dX12_work_62 rfl k_o_texts hz2 ?_
    refine fr_topi (fun y3 hy3 => ?_)
    have h := h y3 hy3
    refine fr_istore (lv' := [(8, .int y3), (0, rf g o), (3, .int u3), (4, .int u4), (5, .int u5), (6, .int u6), (7, .int u7)]) dX12_work_63 rfl (by decide) rfl ?_
    refine fr_aload_n (i := 0) (q := 1) rfl dX12_work_65 rfl ?_
    refine fr_getR dX12_work_66 rfl fl_X12_16 k_o r_o_texts ?_
    refine fr_iload (q := 3) rfl dX12_work_69 rfl ?_
    refine fr_iconst (v := 2) (by decide) dX12_work_71 rfl ?_
    refine fr_iload (q := 6) rfl dX12_work_72 rfl ?_
    refine fr_imul dX12_work_74 rfl ?_
    refine fr_iadd dX12_work_75 rfl ?_
    refine fr_iconst (v := 1) (by decide) dX12_work_76 rfl ?_
    refine fr_iadd dX12_work_77 rfl ?_
    obtain ⟨hz4, h⟩ := h
    refine fr_iald dX12_work_78 rfl k_o_texts hz4 ?_
    refine fr_topi (fun y5 hy5 => ?_)
    have h := h y5 hy5
    refine fr_istore (lv' := [(9, .int y5), (8, .int y3), (0, rf g o), (3, .int u3), (4, .int u4), (5, .int u5), (6, .int u6), (7, .int u7)]) dX12_work_79 rfl (by decide) rfl ?_
    exact fr_sub [2, 3, 4, 5, 6, 7, 1, 0] rfl h
theorem wp_X12_work_81 {g : GE} {Z : Zs} {I : Nat → Nat → Int32} {L : Nat → Nat → Int64} {r : Option Value} {M' : Mem} {o : Nat} {u3 : Int32} {u4 : Int32} {u5 : Int32} {u6 : Int32} {u7 : Int32} {u8 : Int32} {u9 : Int32} {o_truth : Nat} {o_values : Nat} {o_named : Nat} (k_o : KM Z o 12) (r_o_truth : Z.2.1 o 26 = some o_truth) (k_o_truth : KM Z o_truth 15) (r_o_values : Z.2.1 o 25 = some o_values) (k_o_values : KM Z o_values 14) (r_o_named : Z.2.1 o 24 = some o_named) (k_o_named : KM Z o_named 13) (h : ((1 < u8 → ((¬ u8 = 2 → ((10 ≤ u8 → ((20 ≤ u8 → ((¬ u8 = 20 → ((¬ u8 = 23 → (∀ y1 : Int32, y1 = (u6 + (-1)) → ((¬ u8 = 21 → (vp_in (y1 - 1) (Z.2.2.1 o_truth) ∧ ((¬ (I o_truth (y1 - 1).toNatClampNeg) = 0 → (vp_in (y1 - 1) (Z.2.2.1 o_truth) ∧ (∀ I4 : Nat → Nat → Int32, I4 = rw1 I o_truth (upd (I o_truth) (y1 - 1).toNatClampNeg (vp_nar .boolean 1)) → (∀ y5 : Int32, y5 = (u7 + 1) → Lp_X12_work_38 g 3 o u3 u4 u5 y1 y5 (Z, I4, L) r M')))) ∧ ((I o_truth (y1 - 1).toNatClampNeg) = 0 → (vp_in y1 (Z.2.2.1 o_truth) ∧ (((I o_truth y1.toNatClampNeg) = 0 → (vp_in (y1 - 1) (Z.2.2.1 o_truth) ∧ (∀ I8 : Nat → Nat → Int32, I8 = rw1 I o_truth (upd (I o_truth) (y1 - 1).toNatClampNeg (vp_nar .boolean 0)) → (∀ y9 : Int32, y9 = (u7 + 1) → Lp_X12_work_38 g 3 o u3 u4 u5 y1 y9 (Z, I8, L) r M')))) ∧ (¬ (I o_truth y1.toNatClampNeg) = 0 → (vp_in (y1 - 1) (Z.2.2.1 o_truth) ∧ (∀ I11 : Nat → Nat → Int32, I11 = rw1 I o_truth (upd (I o_truth) (y1 - 1).toNatClampNeg (vp_nar .boolean 1)) → (∀ y12 : Int32, y12 = (u7 + 1) → Lp_X12_work_38 g 3 o u3 u4 u5 y1 y12 (Z, I11, L) r M')))))))))) ∧ (u8 = 21 → (vp_in (y1 - 1) (Z.2.2.1 o_truth) ∧ (((I o_truth (y1 - 1).toNatClampNeg) = 0 → (vp_in (y1 - 1) (Z.2.2.1 o_truth) ∧ (∀ I15 : Nat → Nat → Int32, I15 = rw1 I o_truth (upd (I o_truth) (y1 - 1).toNatClampNeg (vp_nar .boolean 0)) → (∀ y16 : Int32, y16 = (u7 + 1) → Lp_X12_work_38 g 3 o u3 u4 u5 y1 y16 (Z, I15, L) r M')))) ∧ (¬ (I o_truth (y1 - 1).toNatClampNeg) = 0 → (vp_in y1 (Z.2.2.1 o_truth) ∧ (((I o_truth y1.toNatClampNeg) = 0 → (vp_in (y1 - 1) (Z.2.2.1 o_truth) ∧ (∀ I19 : Nat → Nat → Int32, I19 = rw1 I o_truth (upd (I o_truth) (y1 - 1).toNatClampNeg (vp_nar .boolean 0)) → (∀ y20 : Int32, y20 = (u7 + 1) → Lp_X12_work_38 g 3 o u3 u4 u5 y1 y20 (Z, I19, L) r M')))) ∧ (¬ (I o_truth y1.toNatClampNeg) = 0 → (vp_in (y1 - 1) (Z.2.2.1 o_truth) ∧ (∀ I22 : Nat → Nat → Int32, I22 = rw1 I o_truth (upd (I o_truth) (y1 - 1).toNatClampNeg (vp_nar .boolean 1)) → (∀ y23 : Int32, y23 = (u7 + 1) → Lp_X12_work_38 g 3 o u3 u4 u5 y1 y23 (Z, I22, L) r M'))))))))))))) ∧ (u8 = 23 → (∀ y24 : Int32, y24 = (u5 + (-1)) → (∀ y25 : Int32, y25 = (u6 + (-1)) → (vp_in y25 (Z.2.2.1 o_truth) ∧ (((I o_truth y25.toNatClampNeg) = 0 → (vp_in y24 (Z.2.2.1 o_values) ∧ (vp_in (y24 - 1) (Z.2.2.1 o_values) ∧ (∀ L29 : Nat → Nat → Int64, L29 = rw1 L o_values (vp_updL (L o_values) (y24 - 1).toNatClampNeg (L o_values y24.toNatClampNeg)) → (∀ y30 : Int32, y30 = (u7 + 1) → Lp_X12_work_38 g 3 o u3 u4 y24 y25 y30 (Z, I, L29) r M'))))) ∧ (¬ (I o_truth y25.toNatClampNeg) = 0 → (vp_in (y24 - 1) (Z.2.2.1 o_values) ∧ (vp_in (y24 - 1) (Z.2.2.1 o_values) ∧ (∀ L33 : Nat → Nat → Int64, L33 = rw1 L o_values (vp_updL (L o_values) (y24 - 1).toNatClampNeg (L o_values (y24 - 1).toNatClampNeg)) → (∀ y34 : Int32, y34 = (u7 + 1) → Lp_X12_work_38 g 3 o u3 u4 y24 y25 y34 (Z, I, L33) r M')))))))))))) ∧ (u8 = 20 → (vp_in (u6 - 1) (Z.2.2.1 o_truth) ∧ ((¬ (I o_truth (u6 - 1).toNatClampNeg) = 0 → (vp_in (u6 - 1) (Z.2.2.1 o_truth) ∧ (∀ I37 : Nat → Nat → Int32, I37 = rw1 I o_truth (upd (I o_truth) (u6 - 1).toNatClampNeg (vp_nar .boolean 0)) → (∀ y38 : Int32, y38 = (u7 + 1) → Lp_X12_work_38 g 3 o u3 u4 u5 u6 y38 (Z, I37, L) r M')))) ∧ ((I o_truth (u6 - 1).toNatClampNeg) = 0 → (vp_in (u6 - 1) (Z.2.2.1 o_truth) ∧ (∀ I40 : Nat → Nat → Int32, I40 = rw1 I o_truth (upd (I o_truth) (u6 - 1).toNatClampNeg (vp_nar .boolean 1)) → (∀ y41 : Int32, y41 = (u7 + 1) → Lp_X12_work_38 g 3 o u3 u4 u5 u6 y41 (Z, I40, L) r M'))))))))) ∧ (¬ 20 ≤ u8 → (∀ y42 : Int32, y42 = (u5 + (-2)) → (vp_in y42 (Z.2.2.1 o_values) ∧ (vp_in (y42 + 1) (Z.2.2.1 o_values) ∧ (∃ (v45 : Int32), Cl g 1 mu_X12_isAsked [.int u8, .long (L o_values y42.toNatClampNeg), .long (L o_values (y42 + 1).toNatClampNeg)] (Z, I, L) (some (.int v45)) (Z, I, L) ∧ (vp_in u6 (Z.2.2.1 o_truth) ∧ (∀ I48 : Nat → Nat → Int32, I48 = rw1 I o_truth (upd (I o_truth) u6.toNatClampNeg (vp_nar .boolean v45)) → (∀ y49 : Int32, y49 = (u6 + 1) → (∀ y50 : Int32, y50 = (u7 + 1) → Lp_X12_work_38 g 3 o u3 u4 y42 y49 y50 (Z, I48, L) r M'))))))))))) ∧ (¬ 10 ≤ u8 → (∀ y51 : Int32, y51 = (u5 + (-1)) → (vp_in (y51 - 1) (Z.2.2.1 o_values) ∧ (vp_in y51 (Z.2.2.1 o_values) ∧ (∃ (v54 : Int64), Cl g 2 mu_X12_two [.int u8, .long (L o_values (y51 - 1).toNatClampNeg), .long (L o_values y51.toNatClampNeg)] (Z, I, L) (some (.long v54)) (Z, I, L) ∧ (vp_in (y51 - 1) (Z.2.2.1 o_values) ∧ (∀ L57 : Nat → Nat → Int64, L57 = rw1 L o_values (vp_updL (L o_values) (y51 - 1).toNatClampNeg v54) → (∀ y58 : Int32, y58 = (u7 + 1) → Lp_X12_work_38 g 3 o u3 u4 y51 u6 y58 (Z, I, L57) r M')))))))))) ∧ (u8 = 2 → (vp_in (u5 - 1) (Z.2.2.1 o_values) ∧ (vp_in (u5 - 1) (Z.2.2.1 o_values) ∧ (∀ L61 : Nat → Nat → Int64, L61 = rw1 L o_values (vp_updL (L o_values) (u5 - 1).toNatClampNeg (-(L o_values (u5 - 1).toNatClampNeg))) → (∀ y62 : Int32, y62 = (u7 + 1) → Lp_X12_work_38 g 3 o u3 u4 u5 u6 y62 (Z, I, L61) r M'))))))) ∧ (¬ 1 < u8 → ((¬ u8 = 0 → (vp_in u9 (Z.2.2.1 o_named) ∧ (vp_in u5 (Z.2.2.1 o_values) ∧ (∀ L65 : Nat → Nat → Int64, L65 = rw1 L o_values (vp_updL (L o_values) u5.toNatClampNeg ((I o_named u9.toNatClampNeg).toInt64)) → (∀ y66 : Int32, y66 = (u5 + 1) → (∀ y67 : Int32, y67 = (u7 + 1) → Lp_X12_work_38 g 3 o u3 u4 y66 u6 y67 (Z, I, L65) r M')))))) ∧ (u8 = 0 → (vp_in u5 (Z.2.2.1 o_values) ∧ (∀ L69 : Nat → Nat → Int64, L69 = rw1 L o_values (vp_updL (L o_values) u5.toNatClampNeg u9.toInt64) → (∀ y70 : Int32, y70 = (u5 + 1) → (∀ y71 : Int32, y71 = (u7 + 1) → Lp_X12_work_38 g 3 o u3 u4 y70 u6 y71 (Z, I, L69) r M'))))))))) : Lp_X12_work_81 g 3 o u3 u4 u5 u6 u7 u8 u9 (Z, I, L) r M' := by
  refine fr_iload (q := 6) rfl dX12_work_81 rfl ?_
  refine fr_iconst (v := 1) (by decide) dX12_work_83 rfl ?_
  refine fr_icmp_gt (tgt := 119) dX12_work_84 (by decide) rfl (fun hc => ?_) (fun hc => ?_)
  · have h := h.1 hc
    refine fr_iload (q := 6) rfl dX12_work_119 rfl ?_
    refine fr_iconst (v := 2) (by decide) dX12_work_121 rfl ?_
    refine fr_icmp_ne (tgt := 147) dX12_work_122 (by decide) rfl (fun hc => ?_) (fun hc => ?_)
    · have h := h.1 hc
      refine fr_iload (q := 6) rfl dX12_work_147 rfl ?_
      refine fr_bipush (v := 10) (by decide) dX12_work_149 rfl ?_
      refine fr_icmp_ge (tgt := 190) dX12_work_151 (by decide) rfl (fun hc => ?_) (fun hc => ?_)
      · have h := h.1 hc
        refine fr_iload (q := 6) rfl dX12_work_190 rfl ?_
        refine fr_bipush (v := 20) (by decide) dX12_work_192 rfl ?_
        refine fr_icmp_ge (tgt := 234) dX12_work_194 (by decide) rfl (fun hc => ?_) (fun hc => ?_)
        · have h := h.1 hc
          refine fr_iload (q := 6) rfl dX12_work_234 rfl ?_
          refine fr_bipush (v := 20) (by decide) dX12_work_236 rfl ?_
          refine fr_icmp_ne (tgt := 270) dX12_work_238 (by decide) rfl (fun hc => ?_) (fun hc => ?_)
          · have h := h.1 hc
            refine fr_iload (q := 6) rfl dX12_work_270 rfl ?_
            refine fr_bipush (v := 23) (by decide) dX12_work_272 rfl ?_
            refine fr_icmp_ne (tgt := 324) dX12_work_274 (by decide) rfl (fun hc => ?_) (fun hc => ?_)
            · have h := h.1 hc
              obtain ⟨y1, hy1⟩ : ∃ y : Int32, y = u6 + (-1) := ⟨_, rfl⟩
              have h := h y1 hy1
              refine fr_iinc (q := 4) (v := y1) (lv' := [(6, .int y1), (0, rf g o), (3, .int u3), (4, .int u4), (5, .int u5), (7, .int u7), (8, .int u8), (9, .int u9)]) rfl (by rw [hy1]; rfl) dX12_work_324 rfl (by decide) rfl ?_
              refine fr_aload_n (i := 0) (q := 1) rfl dX12_work_327 rfl ?_
              refine fr_getR dX12_work_328 rfl fl_X12_39 k_o r_o_truth ?_
              refine fr_iload (q := 0) rfl dX12_work_331 rfl ?_
              refine fr_iconst (v := 1) (by decide) dX12_work_333 rfl ?_
              refine fr_isub dX12_work_334 rfl ?_
              refine fr_iload (q := 6) rfl dX12_work_335 rfl ?_
              refine fr_bipush (v := 21) (by decide) dX12_work_337 rfl ?_
              refine fr_icmp_ne (tgt := 372) dX12_work_339 (by decide) rfl (fun hc => ?_) (fun hc => ?_)
              · have h := h.1 hc
                refine fr_aload_n (i := 0) (q := 1) rfl dX12_work_372 rfl ?_
                refine fr_getR dX12_work_373 rfl fl_X12_39 k_o r_o_truth ?_
                refine fr_iload (q := 0) rfl dX12_work_376 rfl ?_
                refine fr_iconst (v := 1) (by decide) dX12_work_378 rfl ?_
                refine fr_isub dX12_work_379 rfl ?_
                obtain ⟨hz2, h⟩ := h
                refine fr_zald dX12_work_380 rfl k_o_truth hz2 ?_
                refine fr_if_ne (tgt := 394) dX12_work_381 (by decide) rfl (fun hc => ?_) (fun hc => ?_)
                · have h := h.1 hc
                  refine fr_iconst (v := 1) (by decide) dX12_work_394 rfl ?_
                  refine fr_goto (n := 399) dX12_work_395 (by decide) ?_
                  obtain ⟨hz3, h⟩ := h
                  refine fr_zast dX12_work_399 rfl k_o_truth hz3 ?_
                  refine fr_memI (fun I4 hI4 => ?_)
                  have h := h I4 hI4
                  obtain ⟨y5, hy5⟩ : ∃ y : Int32, y = u7 + 1 := ⟨_, rfl⟩
                  have h := h y5 hy5
                  refine fr_iinc (q := 5) (v := y5) (lv' := [(7, .int y5), (6, .int y1), (0, rf g o), (3, .int u3), (4, .int u4), (5, .int u5), (8, .int u8), (9, .int u9)]) rfl (by rw [hy5]; rfl) dX12_work_400 rfl (by decide) rfl ?_
                  refine fr_goto (n := 38) dX12_work_403 (by decide) ?_
                  exact fr_sub [2, 3, 4, 5, 1, 0] rfl h
                · have h := h.2 hc
                  refine fr_aload_n (i := 0) (q := 1) rfl dX12_work_384 rfl ?_
                  refine fr_getR dX12_work_385 rfl fl_X12_39 k_o r_o_truth ?_
                  refine fr_iload (q := 0) rfl dX12_work_388 rfl ?_
                  obtain ⟨hz6, h⟩ := h
                  refine fr_zald dX12_work_390 rfl k_o_truth hz6 ?_
                  refine fr_if_eq (tgt := 398) dX12_work_391 (by decide) rfl (fun hc => ?_) (fun hc => ?_)
                  · have h := h.1 hc
                    refine fr_iconst (v := 0) (by decide) dX12_work_398 rfl ?_
                    obtain ⟨hz7, h⟩ := h
                    refine fr_zast dX12_work_399 rfl k_o_truth hz7 ?_
                    refine fr_memI (fun I8 hI8 => ?_)
                    have h := h I8 hI8
                    obtain ⟨y9, hy9⟩ : ∃ y : Int32, y = u7 + 1 := ⟨_, rfl⟩
                    have h := h y9 hy9
                    refine fr_iinc (q := 5) (v := y9) (lv' := [(7, .int y9), (6, .int y1), (0, rf g o), (3, .int u3), (4, .int u4), (5, .int u5), (8, .int u8), (9, .int u9)]) rfl (by rw [hy9]; rfl) dX12_work_400 rfl (by decide) rfl ?_
                    refine fr_goto (n := 38) dX12_work_403 (by decide) ?_
                    exact fr_sub [2, 3, 4, 5, 1, 0] rfl h
                  · have h := h.2 hc
                    refine fr_iconst (v := 1) (by decide) dX12_work_394 rfl ?_
                    refine fr_goto (n := 399) dX12_work_395 (by decide) ?_
                    obtain ⟨hz10, h⟩ := h
                    refine fr_zast dX12_work_399 rfl k_o_truth hz10 ?_
                    refine fr_memI (fun I11 hI11 => ?_)
                    have h := h I11 hI11
                    obtain ⟨y12, hy12⟩ : ∃ y : Int32, y = u7 + 1 := ⟨_, rfl⟩
                    have h := h y12 hy12
                    refine fr_iinc (q := 5) (v := y12) (lv' := [(7, .int y12), (6, .int y1), (0, rf g o), (3, .int u3), (4, .int u4), (5, .int u5), (8, .int u8), (9, .int u9)]) rfl (by rw [hy12]; rfl) dX12_work_400 rfl (by decide) rfl ?_
                    refine fr_goto (n := 38) dX12_work_403 (by decide) ?_
                    exact fr_sub [2, 3, 4, 5, 1, 0] rfl h
              · have h := h.2 hc
                refine fr_aload_n (i := 0) (q := 1) rfl dX12_work_342 rfl ?_
                refine fr_getR dX12_work_343 rfl fl_X12_39 k_o r_o_truth ?_
                refine fr_iload (q := 0) rfl dX12_work_346 rfl ?_
                refine fr_iconst (v := 1) (by decide) dX12_work_348 rfl ?_
                refine fr_isub dX12_work_349 rfl ?_
                obtain ⟨hz13, h⟩ := h
                refine fr_zald dX12_work_350 rfl k_o_truth hz13 ?_
                refine fr_if_eq (tgt := 368) dX12_work_351 (by decide) rfl (fun hc => ?_) (fun hc => ?_)
                · have h := h.1 hc
                  refine fr_iconst (v := 0) (by decide) dX12_work_368 rfl ?_
                  refine fr_goto (n := 399) dX12_work_369 (by decide) ?_
                  obtain ⟨hz14, h⟩ := h
                  refine fr_zast dX12_work_399 rfl k_o_truth hz14 ?_
                  refine fr_memI (fun I15 hI15 => ?_)
                  have h := h I15 hI15
                  obtain ⟨y16, hy16⟩ : ∃ y : Int32, y = u7 + 1 := ⟨_, rfl⟩
                  have h := h y16 hy16
                  refine fr_iinc (q := 5) (v := y16) (lv' := [(7, .int y16), (6, .int y1), (0, rf g o), (3, .int u3), (4, .int u4), (5, .int u5), (8, .int u8), (9, .int u9)]) rfl (by rw [hy16]; rfl) dX12_work_400 rfl (by decide) rfl ?_
                  refine fr_goto (n := 38) dX12_work_403 (by decide) ?_
                  exact fr_sub [2, 3, 4, 5, 1, 0] rfl h
                · have h := h.2 hc
                  refine fr_aload_n (i := 0) (q := 1) rfl dX12_work_354 rfl ?_
                  refine fr_getR dX12_work_355 rfl fl_X12_39 k_o r_o_truth ?_
                  refine fr_iload (q := 0) rfl dX12_work_358 rfl ?_
                  obtain ⟨hz17, h⟩ := h
                  refine fr_zald dX12_work_360 rfl k_o_truth hz17 ?_
                  refine fr_if_eq (tgt := 368) dX12_work_361 (by decide) rfl (fun hc => ?_) (fun hc => ?_)
                  · have h := h.1 hc
                    refine fr_iconst (v := 0) (by decide) dX12_work_368 rfl ?_
                    refine fr_goto (n := 399) dX12_work_369 (by decide) ?_
                    obtain ⟨hz18, h⟩ := h
                    refine fr_zast dX12_work_399 rfl k_o_truth hz18 ?_
                    refine fr_memI (fun I19 hI19 => ?_)
                    have h := h I19 hI19
                    obtain ⟨y20, hy20⟩ : ∃ y : Int32, y = u7 + 1 := ⟨_, rfl⟩
                    have h := h y20 hy20
                    refine fr_iinc (q := 5) (v := y20) (lv' := [(7, .int y20), (6, .int y1), (0, rf g o), (3, .int u3), (4, .int u4), (5, .int u5), (8, .int u8), (9, .int u9)]) rfl (by rw [hy20]; rfl) dX12_work_400 rfl (by decide) rfl ?_
                    refine fr_goto (n := 38) dX12_work_403 (by decide) ?_
                    exact fr_sub [2, 3, 4, 5, 1, 0] rfl h
                  · have h := h.2 hc
                    refine fr_iconst (v := 1) (by decide) dX12_work_364 rfl ?_
                    refine fr_goto (n := 399) dX12_work_365 (by decide) ?_
                    obtain ⟨hz21, h⟩ := h
                    refine fr_zast dX12_work_399 rfl k_o_truth hz21 ?_
                    refine fr_memI (fun I22 hI22 => ?_)
                    have h := h I22 hI22
                    obtain ⟨y23, hy23⟩ : ∃ y : Int32, y = u7 + 1 := ⟨_, rfl⟩
                    have h := h y23 hy23
                    refine fr_iinc (q := 5) (v := y23) (lv' := [(7, .int y23), (6, .int y1), (0, rf g o), (3, .int u3), (4, .int u4), (5, .int u5), (8, .int u8), (9, .int u9)]) rfl (by rw [hy23]; rfl) dX12_work_400 rfl (by decide) rfl ?_
                    refine fr_goto (n := 38) dX12_work_403 (by decide) ?_
                    exact fr_sub [2, 3, 4, 5, 1, 0] rfl h
            · have h := h.2 hc
              obtain ⟨y24, hy24⟩ : ∃ y : Int32, y = u5 + (-1) := ⟨_, rfl⟩
              have h := h y24 hy24
              refine fr_iinc (q := 3) (v := y24) (lv' := [(5, .int y24), (0, rf g o), (3, .int u3), (4, .int u4), (6, .int u6), (7, .int u7), (8, .int u8), (9, .int u9)]) rfl (by rw [hy24]; rfl) dX12_work_277 rfl (by decide) rfl ?_
              obtain ⟨y25, hy25⟩ : ∃ y : Int32, y = u6 + (-1) := ⟨_, rfl⟩
              have h := h y25 hy25
              refine fr_iinc (q := 4) (v := y25) (lv' := [(6, .int y25), (5, .int y24), (0, rf g o), (3, .int u3), (4, .int u4), (7, .int u7), (8, .int u8), (9, .int u9)]) rfl (by rw [hy25]; rfl) dX12_work_280 rfl (by decide) rfl ?_
              refine fr_aload_n (i := 0) (q := 2) rfl dX12_work_283 rfl ?_
              refine fr_getR dX12_work_284 rfl fl_X12_35 k_o r_o_values ?_
              refine fr_iload (q := 1) rfl dX12_work_287 rfl ?_
              refine fr_iconst (v := 1) (by decide) dX12_work_289 rfl ?_
              refine fr_isub dX12_work_290 rfl ?_
              refine fr_aload_n (i := 0) (q := 2) rfl dX12_work_291 rfl ?_
              refine fr_getR dX12_work_292 rfl fl_X12_39 k_o r_o_truth ?_
              refine fr_iload (q := 0) rfl dX12_work_295 rfl ?_
              obtain ⟨hz26, h⟩ := h
              refine fr_zald dX12_work_297 rfl k_o_truth hz26 ?_
              refine fr_if_eq (tgt := 313) dX12_work_298 (by decide) rfl (fun hc => ?_) (fun hc => ?_)
              · have h := h.1 hc
                refine fr_aload_n (i := 0) (q := 2) rfl dX12_work_313 rfl ?_
                refine fr_getR dX12_work_314 rfl fl_X12_35 k_o r_o_values ?_
                refine fr_iload (q := 1) rfl dX12_work_317 rfl ?_
                obtain ⟨hz27, h⟩ := h
                refine fr_lald dX12_work_319 rfl k_o_values hz27 ?_
                obtain ⟨hz28, h⟩ := h
                refine fr_last dX12_work_320 rfl k_o_values hz28 ?_
                refine fr_memL (fun L29 hL29 => ?_)
                have h := h L29 hL29
                refine fr_goto (n := 400) dX12_work_321 (by decide) ?_
                obtain ⟨y30, hy30⟩ : ∃ y : Int32, y = u7 + 1 := ⟨_, rfl⟩
                have h := h y30 hy30
                refine fr_iinc (q := 5) (v := y30) (lv' := [(7, .int y30), (6, .int y25), (5, .int y24), (0, rf g o), (3, .int u3), (4, .int u4), (8, .int u8), (9, .int u9)]) rfl (by rw [hy30]; rfl) dX12_work_400 rfl (by decide) rfl ?_
                refine fr_goto (n := 38) dX12_work_403 (by decide) ?_
                exact fr_sub [3, 4, 5, 2, 1, 0] rfl h
              · have h := h.2 hc
                refine fr_aload_n (i := 0) (q := 2) rfl dX12_work_301 rfl ?_
                refine fr_getR dX12_work_302 rfl fl_X12_35 k_o r_o_values ?_
                refine fr_iload (q := 1) rfl dX12_work_305 rfl ?_
                refine fr_iconst (v := 1) (by decide) dX12_work_307 rfl ?_
                refine fr_isub dX12_work_308 rfl ?_
                obtain ⟨hz31, h⟩ := h
                refine fr_lald dX12_work_309 rfl k_o_values hz31 ?_
                refine fr_goto (n := 320) dX12_work_310 (by decide) ?_
                obtain ⟨hz32, h⟩ := h
                refine fr_last dX12_work_320 rfl k_o_values hz32 ?_
                refine fr_memL (fun L33 hL33 => ?_)
                have h := h L33 hL33
                refine fr_goto (n := 400) dX12_work_321 (by decide) ?_
                obtain ⟨y34, hy34⟩ : ∃ y : Int32, y = u7 + 1 := ⟨_, rfl⟩
                have h := h y34 hy34
                refine fr_iinc (q := 5) (v := y34) (lv' := [(7, .int y34), (6, .int y25), (5, .int y24), (0, rf g o), (3, .int u3), (4, .int u4), (8, .int u8), (9, .int u9)]) rfl (by rw [hy34]; rfl) dX12_work_400 rfl (by decide) rfl ?_
                refine fr_goto (n := 38) dX12_work_403 (by decide) ?_
                exact fr_sub [3, 4, 5, 2, 1, 0] rfl h
          · have h := h.2 hc
            refine fr_aload_n (i := 0) (q := 0) rfl dX12_work_241 rfl ?_
            refine fr_getR dX12_work_242 rfl fl_X12_39 k_o r_o_truth ?_
            refine fr_iload (q := 4) rfl dX12_work_245 rfl ?_
            refine fr_iconst (v := 1) (by decide) dX12_work_247 rfl ?_
            refine fr_isub dX12_work_248 rfl ?_
            refine fr_aload_n (i := 0) (q := 0) rfl dX12_work_249 rfl ?_
            refine fr_getR dX12_work_250 rfl fl_X12_39 k_o r_o_truth ?_
            refine fr_iload (q := 4) rfl dX12_work_253 rfl ?_
            refine fr_iconst (v := 1) (by decide) dX12_work_255 rfl ?_
            refine fr_isub dX12_work_256 rfl ?_
            obtain ⟨hz35, h⟩ := h
            refine fr_zald dX12_work_257 rfl k_o_truth hz35 ?_
            refine fr_if_ne (tgt := 265) dX12_work_258 (by decide) rfl (fun hc => ?_) (fun hc => ?_)
            · have h := h.1 hc
              refine fr_iconst (v := 0) (by decide) dX12_work_265 rfl ?_
              obtain ⟨hz36, h⟩ := h
              refine fr_zast dX12_work_266 rfl k_o_truth hz36 ?_
              refine fr_memI (fun I37 hI37 => ?_)
              have h := h I37 hI37
              refine fr_goto (n := 400) dX12_work_267 (by decide) ?_
              obtain ⟨y38, hy38⟩ : ∃ y : Int32, y = u7 + 1 := ⟨_, rfl⟩
              have h := h y38 hy38
              refine fr_iinc (q := 5) (v := y38) (lv' := [(7, .int y38), (0, rf g o), (3, .int u3), (4, .int u4), (5, .int u5), (6, .int u6), (8, .int u8), (9, .int u9)]) rfl (by rw [hy38]; rfl) dX12_work_400 rfl (by decide) rfl ?_
              refine fr_goto (n := 38) dX12_work_403 (by decide) ?_
              exact fr_sub [1, 2, 3, 4, 5, 0] rfl h
            · have h := h.2 hc
              refine fr_iconst (v := 1) (by decide) dX12_work_261 rfl ?_
              refine fr_goto (n := 266) dX12_work_262 (by decide) ?_
              obtain ⟨hz39, h⟩ := h
              refine fr_zast dX12_work_266 rfl k_o_truth hz39 ?_
              refine fr_memI (fun I40 hI40 => ?_)
              have h := h I40 hI40
              refine fr_goto (n := 400) dX12_work_267 (by decide) ?_
              obtain ⟨y41, hy41⟩ : ∃ y : Int32, y = u7 + 1 := ⟨_, rfl⟩
              have h := h y41 hy41
              refine fr_iinc (q := 5) (v := y41) (lv' := [(7, .int y41), (0, rf g o), (3, .int u3), (4, .int u4), (5, .int u5), (6, .int u6), (8, .int u8), (9, .int u9)]) rfl (by rw [hy41]; rfl) dX12_work_400 rfl (by decide) rfl ?_
              refine fr_goto (n := 38) dX12_work_403 (by decide) ?_
              exact fr_sub [1, 2, 3, 4, 5, 0] rfl h
        · have h := h.2 hc
          obtain ⟨y42, hy42⟩ : ∃ y : Int32, y = u5 + (-2) := ⟨_, rfl⟩
          have h := h y42 hy42
          refine fr_iinc (q := 3) (v := y42) (lv' := [(5, .int y42), (0, rf g o), (3, .int u3), (4, .int u4), (6, .int u6), (7, .int u7), (8, .int u8), (9, .int u9)]) rfl (by rw [hy42]; rfl) dX12_work_197 rfl (by decide) rfl ?_
          refine fr_aload_n (i := 0) (q := 1) rfl dX12_work_200 rfl ?_
          refine fr_getR dX12_work_201 rfl fl_X12_39 k_o r_o_truth ?_
          refine fr_iload (q := 4) rfl dX12_work_204 rfl ?_
          refine fr_iload (q := 6) rfl dX12_work_206 rfl ?_
          refine fr_aload_n (i := 0) (q := 1) rfl dX12_work_208 rfl ?_
          refine fr_getR dX12_work_209 rfl fl_X12_35 k_o r_o_values ?_
          refine fr_iload (q := 0) rfl dX12_work_212 rfl ?_
          obtain ⟨hz43, h⟩ := h
          refine fr_lald dX12_work_214 rfl k_o_values hz43 ?_
          refine fr_aload_n (i := 0) (q := 1) rfl dX12_work_215 rfl ?_
          refine fr_getR dX12_work_216 rfl fl_X12_35 k_o r_o_values ?_
          refine fr_iload (q := 0) rfl dX12_work_219 rfl ?_
          refine fr_iconst (v := 1) (by decide) dX12_work_221 rfl ?_
          refine fr_iadd dX12_work_222 rfl ?_
          obtain ⟨hz44, h⟩ := h
          refine fr_lald dX12_work_223 rfl k_o_values hz44 ?_
          obtain ⟨v45, hc46, h⟩ := h
          refine fr_callS2 (ν := mu_X12_isAsked) (st2 := [.int v45, .int u6, rf g o_truth]) (As := [.int u8, .long (L o_values y42.toNatClampNeg), .long (L o_values (y42 + 1).toNatClampNeg)]) (st := [.int u6, rf g o_truth]) (v := (some (.int v45))) (M1 := (Z, I, L)) dX12_work_224 rfl ml_X12_275 mo_X12_isAsked ms_X12_isAsked (Nat.le_of_ble_eq_true rfl) rfl rfl (Nat.le_of_ble_eq_true rfl) hc46 rfl ?_
          obtain ⟨hz47, h⟩ := h
          refine fr_zast dX12_work_227 rfl k_o_truth hz47 ?_
          refine fr_memI (fun I48 hI48 => ?_)
          have h := h I48 hI48
          obtain ⟨y49, hy49⟩ : ∃ y : Int32, y = u6 + 1 := ⟨_, rfl⟩
          have h := h y49 hy49
          refine fr_iinc (q := 4) (v := y49) (lv' := [(6, .int y49), (5, .int y42), (0, rf g o), (3, .int u3), (4, .int u4), (7, .int u7), (8, .int u8), (9, .int u9)]) rfl (by rw [hy49]; rfl) dX12_work_228 rfl (by decide) rfl ?_
          refine fr_goto (n := 400) dX12_work_231 (by decide) ?_
          obtain ⟨y50, hy50⟩ : ∃ y : Int32, y = u7 + 1 := ⟨_, rfl⟩
          have h := h y50 hy50
          refine fr_iinc (q := 5) (v := y50) (lv' := [(7, .int y50), (6, .int y49), (5, .int y42), (0, rf g o), (3, .int u3), (4, .int u4), (8, .int u8), (9, .int u9)]) rfl (by rw [hy50]; rfl) dX12_work_400 rfl (by decide) rfl ?_
          refine fr_goto (n := 38) dX12_work_403 (by decide) ?_
          exact fr_sub [3, 4, 5, 2, 1, 0] rfl h
      · have h := h.2 hc
        obtain ⟨y51, hy51⟩ : ∃ y : Int32, y = u5 + (-1) := ⟨_, rfl⟩
        have h := h y51 hy51
        refine fr_iinc (q := 3) (v := y51) (lv' := [(5, .int y51), (0, rf g o), (3, .int u3), (4, .int u4), (6, .int u6), (7, .int u7), (8, .int u8), (9, .int u9)]) rfl (by rw [hy51]; rfl) dX12_work_154 rfl (by decide) rfl ?_
        refine fr_aload_n (i := 0) (q := 1) rfl dX12_work_157 rfl ?_
        refine fr_getR dX12_work_158 rfl fl_X12_35 k_o r_o_values ?_
        refine fr_iload (q := 0) rfl dX12_work_161 rfl ?_
        refine fr_iconst (v := 1) (by decide) dX12_work_163 rfl ?_
        refine fr_isub dX12_work_164 rfl ?_
        refine fr_iload (q := 6) rfl dX12_work_165 rfl ?_
        refine fr_aload_n (i := 0) (q := 1) rfl dX12_work_167 rfl ?_
        refine fr_getR dX12_work_168 rfl fl_X12_35 k_o r_o_values ?_
        refine fr_iload (q := 0) rfl dX12_work_171 rfl ?_
        refine fr_iconst (v := 1) (by decide) dX12_work_173 rfl ?_
        refine fr_isub dX12_work_174 rfl ?_
        obtain ⟨hz52, h⟩ := h
        refine fr_lald dX12_work_175 rfl k_o_values hz52 ?_
        refine fr_aload_n (i := 0) (q := 1) rfl dX12_work_176 rfl ?_
        refine fr_getR dX12_work_177 rfl fl_X12_35 k_o r_o_values ?_
        refine fr_iload (q := 0) rfl dX12_work_180 rfl ?_
        obtain ⟨hz53, h⟩ := h
        refine fr_lald dX12_work_182 rfl k_o_values hz53 ?_
        obtain ⟨v54, hc55, h⟩ := h
        refine fr_callS2 (ν := mu_X12_two) (st2 := [.long v54, .int (y51 - 1), rf g o_values]) (As := [.int u8, .long (L o_values (y51 - 1).toNatClampNeg), .long (L o_values y51.toNatClampNeg)]) (st := [.int (y51 - 1), rf g o_values]) (v := (some (.long v54))) (M1 := (Z, I, L)) dX12_work_183 rfl ml_X12_271 mo_X12_two ms_X12_two (Nat.le_of_ble_eq_true rfl) rfl rfl (Nat.le_of_ble_eq_true rfl) hc55 rfl ?_
        obtain ⟨hz56, h⟩ := h
        refine fr_last dX12_work_186 rfl k_o_values hz56 ?_
        refine fr_memL (fun L57 hL57 => ?_)
        have h := h L57 hL57
        refine fr_goto (n := 400) dX12_work_187 (by decide) ?_
        obtain ⟨y58, hy58⟩ : ∃ y : Int32, y = u7 + 1 := ⟨_, rfl⟩
        have h := h y58 hy58
        refine fr_iinc (q := 5) (v := y58) (lv' := [(7, .int y58), (5, .int y51), (0, rf g o), (3, .int u3), (4, .int u4), (6, .int u6), (8, .int u8), (9, .int u9)]) rfl (by rw [hy58]; rfl) dX12_work_400 rfl (by decide) rfl ?_
        refine fr_goto (n := 38) dX12_work_403 (by decide) ?_
        exact fr_sub [2, 3, 4, 1, 5, 0] rfl h
    · have h := h.2 hc
      refine fr_aload_n (i := 0) (q := 0) rfl dX12_work_125 rfl ?_
      refine fr_getR dX12_work_126 rfl fl_X12_35 k_o r_o_values ?_
      refine fr_iload (q := 3) rfl dX12_work_129 rfl ?_
      refine fr_iconst (v := 1) (by decide) dX12_work_131 rfl ?_
      refine fr_isub dX12_work_132 rfl ?_
      refine fr_aload_n (i := 0) (q := 0) rfl dX12_work_133 rfl ?_
      refine fr_getR dX12_work_134 rfl fl_X12_35 k_o r_o_values ?_
      refine fr_iload (q := 3) rfl dX12_work_137 rfl ?_
      refine fr_iconst (v := 1) (by decide) dX12_work_139 rfl ?_
      refine fr_isub dX12_work_140 rfl ?_
      obtain ⟨hz59, h⟩ := h
      refine fr_lald dX12_work_141 rfl k_o_values hz59 ?_
      refine fr_lneg dX12_work_142 rfl ?_
      obtain ⟨hz60, h⟩ := h
      refine fr_last dX12_work_143 rfl k_o_values hz60 ?_
      refine fr_memL (fun L61 hL61 => ?_)
      have h := h L61 hL61
      refine fr_goto (n := 400) dX12_work_144 (by decide) ?_
      obtain ⟨y62, hy62⟩ : ∃ y : Int32, y = u7 + 1 := ⟨_, rfl⟩
      have h := h y62 hy62
      refine fr_iinc (q := 5) (v := y62) (lv' := [(7, .int y62), (0, rf g o), (3, .int u3), (4, .int u4), (5, .int u5), (6, .int u6), (8, .int u8), (9, .int u9)]) rfl (by rw [hy62]; rfl) dX12_work_400 rfl (by decide) rfl ?_
      refine fr_goto (n := 38) dX12_work_403 (by decide) ?_
      exact fr_sub [1, 2, 3, 4, 5, 0] rfl h
  · have h := h.2 hc
    refine fr_aload_n (i := 0) (q := 0) rfl dX12_work_87 rfl ?_
    refine fr_getR dX12_work_88 rfl fl_X12_35 k_o r_o_values ?_
    refine fr_iload (q := 3) rfl dX12_work_91 rfl ?_
    refine fr_iload (q := 6) rfl dX12_work_93 rfl ?_
    refine fr_if_ne (tgt := 104) dX12_work_95 (by decide) rfl (fun hc => ?_) (fun hc => ?_)
    · have h := h.1 hc
      refine fr_aload_n (i := 0) (q := 0) rfl dX12_work_104 rfl ?_
      refine fr_getR dX12_work_105 rfl fl_X12_32 k_o r_o_named ?_
      refine fr_iload (q := 7) rfl dX12_work_108 rfl ?_
      obtain ⟨hz63, h⟩ := h
      refine fr_iald dX12_work_110 rfl k_o_named hz63 ?_
      refine fr_i2l dX12_work_111 rfl ?_
      obtain ⟨hz64, h⟩ := h
      refine fr_last dX12_work_112 rfl k_o_values hz64 ?_
      refine fr_memL (fun L65 hL65 => ?_)
      have h := h L65 hL65
      obtain ⟨y66, hy66⟩ : ∃ y : Int32, y = u5 + 1 := ⟨_, rfl⟩
      have h := h y66 hy66
      refine fr_iinc (q := 3) (v := y66) (lv' := [(5, .int y66), (0, rf g o), (3, .int u3), (4, .int u4), (6, .int u6), (7, .int u7), (8, .int u8), (9, .int u9)]) rfl (by rw [hy66]; rfl) dX12_work_113 rfl (by decide) rfl ?_
      refine fr_goto (n := 400) dX12_work_116 (by decide) ?_
      obtain ⟨y67, hy67⟩ : ∃ y : Int32, y = u7 + 1 := ⟨_, rfl⟩
      have h := h y67 hy67
      refine fr_iinc (q := 5) (v := y67) (lv' := [(7, .int y67), (5, .int y66), (0, rf g o), (3, .int u3), (4, .int u4), (6, .int u6), (8, .int u8), (9, .int u9)]) rfl (by rw [hy67]; rfl) dX12_work_400 rfl (by decide) rfl ?_
      refine fr_goto (n := 38) dX12_work_403 (by decide) ?_
      exact fr_sub [2, 3, 4, 1, 5, 0] rfl h
    · have h := h.2 hc
      refine fr_iload (q := 7) rfl dX12_work_98 rfl ?_
      refine fr_i2l dX12_work_100 rfl ?_
      refine fr_goto (n := 112) dX12_work_101 (by decide) ?_
      obtain ⟨hz68, h⟩ := h
      refine fr_last dX12_work_112 rfl k_o_values hz68 ?_
      refine fr_memL (fun L69 hL69 => ?_)
      have h := h L69 hL69
      obtain ⟨y70, hy70⟩ : ∃ y : Int32, y = u5 + 1 := ⟨_, rfl⟩
      have h := h y70 hy70
      refine fr_iinc (q := 3) (v := y70) (lv' := [(5, .int y70), (0, rf g o), (3, .int u3), (4, .int u4), (6, .int u6), (7, .int u7), (8, .int u8), (9, .int u9)]) rfl (by rw [hy70]; rfl) dX12_work_113 rfl (by decide) rfl ?_
      refine fr_goto (n := 400) dX12_work_116 (by decide) ?_
      obtain ⟨y71, hy71⟩ : ∃ y : Int32, y = u7 + 1 := ⟨_, rfl⟩
      have h := h y71 hy71
      refine fr_iinc (q := 5) (v := y71) (lv' := [(7, .int y71), (5, .int y70), (0, rf g o), (3, .int u3), (4, .int u4), (6, .int u6), (8, .int u8), (9, .int u9)]) rfl (by rw [hy71]; rfl) dX12_work_400 rfl (by decide) rfl ?_
      refine fr_goto (n := 38) dX12_work_403 (by decide) ?_
      exact fr_sub [2, 3, 4, 1, 5, 0] rfl h
abbrev Lp_X12_clauseOf_2 (g : GE) (d : Nat) (o : Nat) (u1 : Int32) (u2 : Int32) (u3 : Int32) (M : Mem) (r : Option Value) (M' : Mem) : Prop := Fr g d mu_X12_clauseOf 2 [(0, rf g o), (1, .int u1), (2, .int u2), (3, .int u3)] [] M r M'
theorem cp_X12_clauseOf {g : GE} {Z : Zs} {I : Nat → Nat → Int32} {L : Nat → Nat → Int64} {r : Option Value} {M' : Mem} {o : Nat} {x1 : Int32} {x2 : Int32} (k_o : KM Z o 12) (h : Lp_X12_clauseOf_2 g 1 o x1 x2 0 (Z, I, L) r M') : Cl g 1 mu_X12_clauseOf [rf g o, .int x1, .int x2] (Z, I, L) r M' := by
  refine cl_of (lv := [(0, rf g o), (1, .int x1), (2, .int x2)]) (by decide) (Nat.le_of_ble_eq_true rfl) rfl ?_
  refine fr_iconst (v := 0) (by decide) dX12_clauseOf_0 rfl ?_
  refine fr_istore_n (i := 3) (lv' := [(3, .int 0), (0, rf g o), (1, .int x1), (2, .int x2)]) dX12_clauseOf_1 rfl (by decide) rfl ?_
  exact fr_sub [1, 2, 3, 0] rfl h
theorem wp_X12_clauseOf_2 {g : GE} {Z : Zs} {I : Nat → Nat → Int32} {L : Nat → Nat → Int64} {r : Option Value} {M' : Mem} {o : Nat} {u1 : Int32} {u2 : Int32} {u3 : Int32} {o_texts : Nat} (k_o : KM Z o 12) (r_o_texts : Z.2.1 o 4 = some o_texts) (k_o_texts : KM Z o_texts 13) (h : (vp_in (620 * u1) (Z.2.2.1 o_texts) ∧ (((I o_texts (620 * u1).toNatClampNeg) ≤ u3 → (r = some (.int ((-1))) ∧ M' = (Z, I, L))) ∧ (¬ (I o_texts (620 * u1).toNatClampNeg) ≤ u3 → (vp_in (((620 * u1) + 1) + (3 * u3)) (Z.2.2.1 o_texts) ∧ ((¬ (I o_texts (((620 * u1) + 1) + (3 * u3)).toNatClampNeg) = u2 → (∀ y3 : Int32, y3 = (u3 + 1) → Lp_X12_clauseOf_2 g 1 o u1 u2 y3 (Z, I, L) r M')) ∧ ((I o_texts (((620 * u1) + 1) + (3 * u3)).toNatClampNeg) = u2 → (r = some (.int u3) ∧ M' = (Z, I, L))))))))) : Lp_X12_clauseOf_2 g 1 o u1 u2 u3 (Z, I, L) r M' := by
  refine fr_iload_n (i := 3) (q := 3) rfl dX12_clauseOf_2 rfl ?_
  refine fr_aload_n (i := 0) (q := 0) rfl dX12_clauseOf_3 rfl ?_
  refine fr_getR dX12_clauseOf_4 rfl fl_X12_16 k_o r_o_texts ?_
  refine fr_sipush (v := 620) (by decide) dX12_clauseOf_7 rfl ?_
  refine fr_iload_n (i := 1) (q := 1) rfl dX12_clauseOf_10 rfl ?_
  refine fr_imul dX12_clauseOf_11 rfl ?_
  obtain ⟨hz1, h⟩ := h
  refine fr_iald dX12_clauseOf_12 rfl k_o_texts hz1 ?_
  refine fr_icmp_ge (tgt := 44) dX12_clauseOf_13 (by decide) rfl (fun hc => ?_) (fun hc => ?_)
  · have h := h.1 hc
    refine fr_iconst (v := (-1)) (by decide) dX12_clauseOf_44 rfl ?_
    exact fr_iret rfl dX12_clauseOf_45 h.1 h.2
  · have h := h.2 hc
    refine fr_aload_n (i := 0) (q := 0) rfl dX12_clauseOf_16 rfl ?_
    refine fr_getR dX12_clauseOf_17 rfl fl_X12_16 k_o r_o_texts ?_
    refine fr_sipush (v := 620) (by decide) dX12_clauseOf_20 rfl ?_
    refine fr_iload_n (i := 1) (q := 1) rfl dX12_clauseOf_23 rfl ?_
    refine fr_imul dX12_clauseOf_24 rfl ?_
    refine fr_iconst (v := 1) (by decide) dX12_clauseOf_25 rfl ?_
    refine fr_iadd dX12_clauseOf_26 rfl ?_
    refine fr_iconst (v := 3) (by decide) dX12_clauseOf_27 rfl ?_
    refine fr_iload_n (i := 3) (q := 3) rfl dX12_clauseOf_28 rfl ?_
    refine fr_imul dX12_clauseOf_29 rfl ?_
    refine fr_iadd dX12_clauseOf_30 rfl ?_
    obtain ⟨hz2, h⟩ := h
    refine fr_iald dX12_clauseOf_31 rfl k_o_texts hz2 ?_
    refine fr_iload_n (i := 2) (q := 2) rfl dX12_clauseOf_32 rfl ?_
    refine fr_icmp_ne (tgt := 38) dX12_clauseOf_33 (by decide) rfl (fun hc => ?_) (fun hc => ?_)
    · have h := h.1 hc
      obtain ⟨y3, hy3⟩ : ∃ y : Int32, y = u3 + 1 := ⟨_, rfl⟩
      have h := h y3 hy3
      refine fr_iinc (q := 3) (v := y3) (lv' := [(3, .int y3), (0, rf g o), (1, .int u1), (2, .int u2)]) rfl (by rw [hy3]; rfl) dX12_clauseOf_38 rfl (by decide) rfl ?_
      refine fr_goto (n := 2) dX12_clauseOf_41 (by decide) ?_
      exact fr_sub [1, 2, 3, 0] rfl h
    · have h := h.2 hc
      refine fr_iload_n (i := 3) (q := 3) rfl dX12_clauseOf_36 rfl ?_
      exact fr_iret rfl dX12_clauseOf_37 h.1 h.2
theorem cp_X12_doesAt {g : GE} {Z : Zs} {I : Nat → Nat → Int32} {L : Nat → Nat → Int64} {r : Option Value} {M' : Mem} {o : Nat} {x1 : Int32} {x2 : Int32} {o_values : Nat} (k_o : KM Z o 12) (r_o_values : Z.2.1 o 25 = some o_values) (k_o_values : KM Z o_values 14) (h : (∃ (v1 : Int32), Cl g 1 mu_X12_clauseOf [rf g o, .int x1, .int 0] (Z, I, L) (some (.int v1)) (Z, I, L) ∧ ((0 ≤ v1 → (∃ (I3 : Nat → Nat → Int32) (L4 : Nat → Nat → Int64), Cl g 3 mu_X12_work [rf g o, .int x1, .int v1] (Z, I, L) none (Z, I3, L4) ∧ (vp_in 0 (Z.2.2.1 o_values) ∧ ((0 ≤ (lg_cmp (L4 o_values (0 : Int32).toNatClampNeg) 0) → (vp_in 0 (Z.2.2.1 o_values) ∧ (((lg_cmp (L4 o_values (0 : Int32).toNatClampNeg) 4) ≤ 0 → (vp_in 0 (Z.2.2.1 o_values) ∧ (r = some (.int ((L4 o_values (0 : Int32).toNatClampNeg).toInt32)) ∧ M' = (Z, I3, L4)))) ∧ (¬ (lg_cmp (L4 o_values (0 : Int32).toNatClampNeg) 4) ≤ 0 → (r = some (.int 4) ∧ M' = (Z, I3, L4)))))) ∧ (¬ 0 ≤ (lg_cmp (L4 o_values (0 : Int32).toNatClampNeg) 0) → (r = some (.int 0) ∧ M' = (Z, I3, L4))))))) ∧ (¬ 0 ≤ v1 → (r = some (.int ((x2 + 1) - (x2 + 1) / 4 * 4)) ∧ M' = (Z, I, L)))))) : Cl g 4 mu_X12_doesAt [rf g o, .int x1, .int x2] (Z, I, L) r M' := by
  refine cl_of (lv := [(0, rf g o), (1, .int x1), (2, .int x2)]) (by decide) (Nat.le_of_ble_eq_true rfl) rfl ?_
  refine fr_aload_n (i := 0) (q := 0) rfl dX12_doesAt_0 rfl ?_
  refine fr_iload_n (i := 1) (q := 1) rfl dX12_doesAt_1 rfl ?_
  refine fr_iconst (v := 0) (by decide) dX12_doesAt_2 rfl ?_
  obtain ⟨v1, hc2, h⟩ := h
  refine fr_callV2 (ν := mu_X12_clauseOf) (st2 := [.int v1]) (As := [.int x1, .int 0]) (st := []) (v := (some (.int v1))) (M1 := (Z, I, L)) dX12_doesAt_3 rfl ml_X12_279 mo_X12_clauseOf mi_X12_clauseOf (ci := 12) rfl rfl k_o (Nat.le_of_ble_eq_true rfl) rfl rfl (Nat.le_of_ble_eq_true rfl) hc2 rfl ?_
  refine fr_istore_n (i := 3) (lv' := [(3, .int v1), (0, rf g o), (1, .int x1), (2, .int x2)]) dX12_doesAt_6 rfl (by decide) rfl ?_
  refine fr_iload_n (i := 3) (q := 0) rfl dX12_doesAt_7 rfl ?_
  refine fr_if_ge (tgt := 17) dX12_doesAt_8 (by decide) rfl (fun hc => ?_) (fun hc => ?_)
  · have h := h.1 hc
    refine fr_aload_n (i := 0) (q := 1) rfl dX12_doesAt_17 rfl ?_
    refine fr_iload_n (i := 1) (q := 2) rfl dX12_doesAt_18 rfl ?_
    refine fr_iload_n (i := 3) (q := 0) rfl dX12_doesAt_19 rfl ?_
    obtain ⟨I3, L4, hc5, h⟩ := h
    refine fr_callV2 (ν := mu_X12_work) (st2 := []) (As := [.int x1, .int v1]) (st := []) (v := none) (M1 := (Z, I3, L4)) dX12_doesAt_20 rfl ml_X12_283 mo_X12_work mi_X12_work (ci := 12) rfl rfl k_o (Nat.le_of_ble_eq_true rfl) rfl rfl (Nat.le_of_ble_eq_true rfl) hc5 rfl ?_
    refine fr_aload_n (i := 0) (q := 1) rfl dX12_doesAt_23 rfl ?_
    refine fr_getR dX12_doesAt_24 rfl fl_X12_35 k_o r_o_values ?_
    refine fr_iconst (v := 0) (by decide) dX12_doesAt_27 rfl ?_
    obtain ⟨hz6, h⟩ := h
    refine fr_lald dX12_doesAt_28 rfl k_o_values hz6 ?_
    refine fr_lconst (v := 0) (by decide) dX12_doesAt_29 rfl ?_
    refine fr_lcmp dX12_doesAt_30 rfl ?_
    refine fr_if_ge (tgt := 38) dX12_doesAt_31 (by decide) rfl (fun hc => ?_) (fun hc => ?_)
    · have h := h.1 hc
      refine fr_aload_n (i := 0) (q := 1) rfl dX12_doesAt_38 rfl ?_
      refine fr_getR dX12_doesAt_39 rfl fl_X12_35 k_o r_o_values ?_
      refine fr_iconst (v := 0) (by decide) dX12_doesAt_42 rfl ?_
      obtain ⟨hz7, h⟩ := h
      refine fr_lald dX12_doesAt_43 rfl k_o_values hz7 ?_
      refine fr_ldc2 (v := 4) kc_X12_286 dX12_doesAt_44 rfl ?_
      refine fr_lcmp dX12_doesAt_47 rfl ?_
      refine fr_if_le (tgt := 55) dX12_doesAt_48 (by decide) rfl (fun hc => ?_) (fun hc => ?_)
      · have h := h.1 hc
        refine fr_aload_n (i := 0) (q := 1) rfl dX12_doesAt_55 rfl ?_
        refine fr_getR dX12_doesAt_56 rfl fl_X12_35 k_o r_o_values ?_
        refine fr_iconst (v := 0) (by decide) dX12_doesAt_59 rfl ?_
        obtain ⟨hz8, h⟩ := h
        refine fr_lald dX12_doesAt_60 rfl k_o_values hz8 ?_
        refine fr_l2i dX12_doesAt_61 rfl ?_
        exact fr_iret rfl dX12_doesAt_62 h.1 h.2
      · have h := h.2 hc
        refine fr_iconst (v := 4) (by decide) dX12_doesAt_51 rfl ?_
        refine fr_goto (n := 62) dX12_doesAt_52 (by decide) ?_
        exact fr_iret rfl dX12_doesAt_62 h.1 h.2
    · have h := h.2 hc
      refine fr_iconst (v := 0) (by decide) dX12_doesAt_34 rfl ?_
      refine fr_goto (n := 62) dX12_doesAt_35 (by decide) ?_
      exact fr_iret rfl dX12_doesAt_62 h.1 h.2
  · have h := h.2 hc
    refine fr_iload_n (i := 2) (q := 3) rfl dX12_doesAt_11 rfl ?_
    refine fr_iconst (v := 1) (by decide) dX12_doesAt_12 rfl ?_
    refine fr_iadd dX12_doesAt_13 rfl ?_
    refine fr_iconst (v := 4) (by decide) dX12_doesAt_14 rfl ?_
    refine fr_irem (by decide) dX12_doesAt_15 rfl ?_
    exact fr_iret rfl dX12_doesAt_16 h.1 h.2
abbrev Lp_X12_made_93 (g : GE) (d : Nat) (o : Nat) (u1 : Int32) (u2 : Int32) (u3 : Int32) (u4 : Int32) (M : Mem) (r : Option Value) (M' : Mem) : Prop := Fr g d mu_X12_made 93 [(0, rf g o), (1, .int u1), (2, .int u2), (3, .int u3), (4, .int u4)] [] M r M'
theorem cp_X12_made {g : GE} {Z : Zs} {I : Nat → Nat → Int32} {L : Nat → Nat → Int64} {r : Option Value} {M' : Mem} {o : Nat} {x1 : Int32} {x2 : Int32} {x3 : Int32} {o_named : Nat} {o_a : Nat} (k_o : KM Z o 12) (r_o_named : Z.2.1 o 24 = some o_named) (k_o_named : KM Z o_named 13) (r_o_a : Z.2.1 o 0 = some o_a) (k_o_a : KM Z o_a 13) (h : (∃ (v1 : Int32), Cl g 1 mu_X12_ahead [rf g o, .int x2] (Z, I, L) (some (.int v1)) (Z, I, L) ∧ (vp_in 0 (Z.2.2.1 o_named) ∧ (∀ I4 : Nat → Nat → Int32, I4 = rw1 I o_named (upd (I o_named) (0 : Int32).toNatClampNeg x3) → (vp_in 1 (Z.2.2.1 o_named) ∧ (∀ I6 : Nat → Nat → Int32, I6 = rw1 I4 o_named (upd (I4 o_named) (1 : Int32).toNatClampNeg (x2 - x2 / 4 * 4)) → (¬ (I6 o 2) = 0 ∧ (vp_in 2 (Z.2.2.1 o_named) ∧ (∀ I9 : Nat → Nat → Int32, I9 = rw1 I6 o_named (upd (I6 o_named) (2 : Int32).toNatClampNeg ((x2 / 4) - (x2 / 4) / (I6 o 2) * (I6 o 2))) → (¬ (I9 o 2) = 0 ∧ (vp_in 3 (Z.2.2.1 o_named) ∧ (∀ I12 : Nat → Nat → Int32, I12 = rw1 I9 o_named (upd (I9 o_named) (3 : Int32).toNatClampNeg ((x2 / 4) / (I9 o 2))) → (vp_in (10 + (x2 / 4)) (Z.2.2.1 o_a) ∧ (vp_in 4 (Z.2.2.1 o_named) ∧ (∀ I15 : Nat → Nat → Int32, I15 = rw1 I12 o_named (upd (I12 o_named) (4 : Int32).toNatClampNeg (I12 o_a (10 + (x2 / 4)).toNatClampNeg)) → ((0 ≤ v1 → (vp_in (10 + v1) (Z.2.2.1 o_a) ∧ (vp_in 5 (Z.2.2.1 o_named) ∧ (∀ I18 : Nat → Nat → Int32, I18 = rw1 I15 o_named (upd (I15 o_named) (5 : Int32).toNatClampNeg (I15 o_a (10 + v1).toNatClampNeg)) → Lp_X12_made_93 g 5 o x1 x2 x3 v1 (Z, I18, L) r M')))) ∧ (¬ 0 ≤ v1 → (vp_in 5 (Z.2.2.1 o_named) ∧ (∀ I20 : Nat → Nat → Int32, I20 = rw1 I15 o_named (upd (I15 o_named) (5 : Int32).toNatClampNeg 1) → Lp_X12_made_93 g 5 o x1 x2 x3 v1 (Z, I20, L) r M'))))))))))))))))))) : Cl g 5 mu_X12_made [rf g o, .int x1, .int x2, .int x3] (Z, I, L) r M' := by
  refine cl_of (lv := [(0, rf g o), (1, .int x1), (2, .int x2), (3, .int x3)]) (by decide) (Nat.le_of_ble_eq_true rfl) rfl ?_
  refine fr_aload_n (i := 0) (q := 0) rfl dX12_made_0 rfl ?_
  refine fr_iload_n (i := 2) (q := 2) rfl dX12_made_1 rfl ?_
  obtain ⟨v1, hc2, h⟩ := h
  refine fr_callV2 (ν := mu_X12_ahead) (st2 := [.int v1]) (As := [.int x2]) (st := []) (v := (some (.int v1))) (M1 := (Z, I, L)) dX12_made_2 rfl ml_X12_288 mo_X12_ahead mi_X12_ahead (ci := 12) rfl rfl k_o (Nat.le_of_ble_eq_true rfl) rfl rfl (Nat.le_of_ble_eq_true rfl) hc2 rfl ?_
  refine fr_istore (lv' := [(4, .int v1), (0, rf g o), (1, .int x1), (2, .int x2), (3, .int x3)]) dX12_made_5 rfl (by decide) rfl ?_
  refine fr_aload_n (i := 0) (q := 1) rfl dX12_made_7 rfl ?_
  refine fr_getR dX12_made_8 rfl fl_X12_32 k_o r_o_named ?_
  refine fr_iconst (v := 0) (by decide) dX12_made_11 rfl ?_
  refine fr_iload_n (i := 3) (q := 4) rfl dX12_made_12 rfl ?_
  obtain ⟨hz3, h⟩ := h
  refine fr_iast dX12_made_13 rfl k_o_named hz3 ?_
  refine fr_memI (fun I4 hI4 => ?_)
  have h := h I4 hI4
  refine fr_aload_n (i := 0) (q := 1) rfl dX12_made_14 rfl ?_
  refine fr_getR dX12_made_15 rfl fl_X12_32 k_o r_o_named ?_
  refine fr_iconst (v := 1) (by decide) dX12_made_18 rfl ?_
  refine fr_iload_n (i := 2) (q := 3) rfl dX12_made_19 rfl ?_
  refine fr_iconst (v := 4) (by decide) dX12_made_20 rfl ?_
  refine fr_irem (by decide) dX12_made_21 rfl ?_
  obtain ⟨hz5, h⟩ := h
  refine fr_iast dX12_made_22 rfl k_o_named hz5 ?_
  refine fr_memI (fun I6 hI6 => ?_)
  have h := h I6 hI6
  refine fr_aload_n (i := 0) (q := 1) rfl dX12_made_23 rfl ?_
  refine fr_getR dX12_made_24 rfl fl_X12_32 k_o r_o_named ?_
  refine fr_iconst (v := 2) (by decide) dX12_made_27 rfl ?_
  refine fr_iload_n (i := 2) (q := 3) rfl dX12_made_28 rfl ?_
  refine fr_iconst (v := 4) (by decide) dX12_made_29 rfl ?_
  refine fr_idiv (by decide) dX12_made_30 rfl ?_
  refine fr_aload_n (i := 0) (q := 1) rfl dX12_made_31 rfl ?_
  refine fr_getI dX12_made_32 rfl fl_X12_85 k_o ?_
  obtain ⟨hz7, h⟩ := h
  refine fr_irem hz7 dX12_made_35 rfl ?_
  obtain ⟨hz8, h⟩ := h
  refine fr_iast dX12_made_36 rfl k_o_named hz8 ?_
  refine fr_memI (fun I9 hI9 => ?_)
  have h := h I9 hI9
  refine fr_aload_n (i := 0) (q := 1) rfl dX12_made_37 rfl ?_
  refine fr_getR dX12_made_38 rfl fl_X12_32 k_o r_o_named ?_
  refine fr_iconst (v := 3) (by decide) dX12_made_41 rfl ?_
  refine fr_iload_n (i := 2) (q := 3) rfl dX12_made_42 rfl ?_
  refine fr_iconst (v := 4) (by decide) dX12_made_43 rfl ?_
  refine fr_idiv (by decide) dX12_made_44 rfl ?_
  refine fr_aload_n (i := 0) (q := 1) rfl dX12_made_45 rfl ?_
  refine fr_getI dX12_made_46 rfl fl_X12_85 k_o ?_
  obtain ⟨hz10, h⟩ := h
  refine fr_idiv hz10 dX12_made_49 rfl ?_
  obtain ⟨hz11, h⟩ := h
  refine fr_iast dX12_made_50 rfl k_o_named hz11 ?_
  refine fr_memI (fun I12 hI12 => ?_)
  have h := h I12 hI12
  refine fr_aload_n (i := 0) (q := 1) rfl dX12_made_51 rfl ?_
  refine fr_getR dX12_made_52 rfl fl_X12_32 k_o r_o_named ?_
  refine fr_iconst (v := 4) (by decide) dX12_made_55 rfl ?_
  refine fr_aload_n (i := 0) (q := 1) rfl dX12_made_56 rfl ?_
  refine fr_getR dX12_made_57 rfl fl_X12_7 k_o r_o_a ?_
  refine fr_bipush (v := 10) (by decide) dX12_made_60 rfl ?_
  refine fr_iload_n (i := 2) (q := 3) rfl dX12_made_62 rfl ?_
  refine fr_iconst (v := 4) (by decide) dX12_made_63 rfl ?_
  refine fr_idiv (by decide) dX12_made_64 rfl ?_
  refine fr_iadd dX12_made_65 rfl ?_
  obtain ⟨hz13, h⟩ := h
  refine fr_iald dX12_made_66 rfl k_o_a hz13 ?_
  obtain ⟨hz14, h⟩ := h
  refine fr_iast dX12_made_67 rfl k_o_named hz14 ?_
  refine fr_memI (fun I15 hI15 => ?_)
  have h := h I15 hI15
  refine fr_aload_n (i := 0) (q := 1) rfl dX12_made_68 rfl ?_
  refine fr_getR dX12_made_69 rfl fl_X12_32 k_o r_o_named ?_
  refine fr_iconst (v := 5) (by decide) dX12_made_72 rfl ?_
  refine fr_iload (q := 0) rfl dX12_made_73 rfl ?_
  refine fr_if_ge (tgt := 82) dX12_made_75 (by decide) rfl (fun hc => ?_) (fun hc => ?_)
  · have h := h.1 hc
    refine fr_aload_n (i := 0) (q := 1) rfl dX12_made_82 rfl ?_
    refine fr_getR dX12_made_83 rfl fl_X12_7 k_o r_o_a ?_
    refine fr_bipush (v := 10) (by decide) dX12_made_86 rfl ?_
    refine fr_iload (q := 0) rfl dX12_made_88 rfl ?_
    refine fr_iadd dX12_made_90 rfl ?_
    obtain ⟨hz16, h⟩ := h
    refine fr_iald dX12_made_91 rfl k_o_a hz16 ?_
    obtain ⟨hz17, h⟩ := h
    refine fr_iast dX12_made_92 rfl k_o_named hz17 ?_
    refine fr_memI (fun I18 hI18 => ?_)
    have h := h I18 hI18
    exact fr_sub [1, 2, 3, 4, 0] rfl h
  · have h := h.2 hc
    refine fr_iconst (v := 1) (by decide) dX12_made_78 rfl ?_
    refine fr_goto (n := 92) dX12_made_79 (by decide) ?_
    obtain ⟨hz19, h⟩ := h
    refine fr_iast dX12_made_92 rfl k_o_named hz19 ?_
    refine fr_memI (fun I20 hI20 => ?_)
    have h := h I20 hI20
    exact fr_sub [1, 2, 3, 4, 0] rfl h
abbrev Lp_X12_made_128 (g : GE) (d : Nat) (o : Nat) (u1 : Int32) (u2 : Int32) (u3 : Int32) (u4 : Int32) (M : Mem) (r : Option Value) (M' : Mem) : Prop := Fr g d mu_X12_made 128 [(0, rf g o), (1, .int u1), (2, .int u2), (3, .int u3), (4, .int u4)] [] M r M'
theorem wp_X12_made_93 {g : GE} {Z : Zs} {I : Nat → Nat → Int32} {L : Nat → Nat → Int64} {r : Option Value} {M' : Mem} {o : Nat} {u1 : Int32} {u2 : Int32} {u3 : Int32} {u4 : Int32} {o_truth : Nat} (k_o : KM Z o 12) (r_o_truth : Z.2.1 o 26 = some o_truth) (k_o_truth : KM Z o_truth 15) (h : (∃ (v1 : Int32), Cl g 1 mu_X12_clauseOf [rf g o, .int u1, .int 1] (Z, I, L) (some (.int v1)) (Z, I, L) ∧ ((v1 < 0 → Lp_X12_made_128 g 5 o u1 u2 u3 u4 (Z, I, L) r M') ∧ (¬ v1 < 0 → (∃ (I3 : Nat → Nat → Int32) (L4 : Nat → Nat → Int64), Cl g 3 mu_X12_work [rf g o, .int u1, .int v1] (Z, I, L) none (Z, I3, L4) ∧ (vp_in 0 (Z.2.2.1 o_truth) ∧ (((I3 o_truth (0 : Int32).toNatClampNeg) = 0 → Lp_X12_made_128 g 5 o u1 u2 u3 u4 (Z, I3, L4) r M') ∧ (¬ (I3 o_truth (0 : Int32).toNatClampNeg) = 0 → (r = some (.int (u2 + 400)) ∧ M' = (Z, I3, L4)))))))))) : Lp_X12_made_93 g 5 o u1 u2 u3 u4 (Z, I, L) r M' := by
  refine fr_aload_n (i := 0) (q := 0) rfl dX12_made_93 rfl ?_
  refine fr_iload_n (i := 1) (q := 1) rfl dX12_made_94 rfl ?_
  refine fr_iconst (v := 1) (by decide) dX12_made_95 rfl ?_
  obtain ⟨v1, hc2, h⟩ := h
  refine fr_callV2 (ν := mu_X12_clauseOf) (st2 := [.int v1]) (As := [.int u1, .int 1]) (st := []) (v := (some (.int v1))) (M1 := (Z, I, L)) dX12_made_96 rfl ml_X12_279 mo_X12_clauseOf mi_X12_clauseOf (ci := 12) rfl rfl k_o (Nat.le_of_ble_eq_true rfl) rfl rfl (Nat.le_of_ble_eq_true rfl) hc2 rfl ?_
  refine fr_istore (lv' := [(5, .int v1), (0, rf g o), (1, .int u1), (2, .int u2), (3, .int u3), (4, .int u4)]) dX12_made_99 rfl (by decide) rfl ?_
  refine fr_iload (q := 0) rfl dX12_made_101 rfl ?_
  refine fr_if_lt (tgt := 128) dX12_made_103 (by decide) rfl (fun hc => ?_) (fun hc => ?_)
  · have h := h.1 hc
    exact fr_sub [1, 2, 3, 4, 5] rfl h
  · have h := h.2 hc
    refine fr_aload_n (i := 0) (q := 1) rfl dX12_made_106 rfl ?_
    refine fr_iload_n (i := 1) (q := 2) rfl dX12_made_107 rfl ?_
    refine fr_iload (q := 0) rfl dX12_made_108 rfl ?_
    obtain ⟨I3, L4, hc5, h⟩ := h
    refine fr_callV2 (ν := mu_X12_work) (st2 := []) (As := [.int u1, .int v1]) (st := []) (v := none) (M1 := (Z, I3, L4)) dX12_made_110 rfl ml_X12_283 mo_X12_work mi_X12_work (ci := 12) rfl rfl k_o (Nat.le_of_ble_eq_true rfl) rfl rfl (Nat.le_of_ble_eq_true rfl) hc5 rfl ?_
    refine fr_aload_n (i := 0) (q := 1) rfl dX12_made_113 rfl ?_
    refine fr_getR dX12_made_114 rfl fl_X12_39 k_o r_o_truth ?_
    refine fr_iconst (v := 0) (by decide) dX12_made_117 rfl ?_
    obtain ⟨hz6, h⟩ := h
    refine fr_zald dX12_made_118 rfl k_o_truth hz6 ?_
    refine fr_if_eq (tgt := 128) dX12_made_119 (by decide) rfl (fun hc => ?_) (fun hc => ?_)
    · have h := h.1 hc
      exact fr_sub [1, 2, 3, 4, 5] rfl h
    · have h := h.2 hc
      refine fr_iload_n (i := 2) (q := 3) rfl dX12_made_122 rfl ?_
      refine fr_sipush (v := 400) (by decide) dX12_made_123 rfl ?_
      refine fr_iadd dX12_made_126 rfl ?_
      exact fr_iret rfl dX12_made_127 h.1 h.2
abbrev Lp_X12_made_136 (g : GE) (d : Nat) (o : Nat) (u2 : Int32) (u4 : Int32) (u6 : Int32) (M : Mem) (r : Option Value) (M' : Mem) : Prop := Fr g d mu_X12_made 136 [(0, rf g o), (2, .int u2), (4, .int u4), (6, .int u6)] [] M r M'
theorem wp_X12_made_128 {g : GE} {Z : Zs} {I : Nat → Nat → Int32} {L : Nat → Nat → Int64} {r : Option Value} {M' : Mem} {o : Nat} {u1 : Int32} {u2 : Int32} {u3 : Int32} {u4 : Int32} (k_o : KM Z o 12) (h : (∃ (v1 : Int32) (I2 : Nat → Nat → Int32) (L3 : Nat → Nat → Int64), Cl g 4 mu_X12_doesAt [rf g o, .int u1, .int u3] (Z, I, L) (some (.int v1)) (Z, I2, L3) ∧ Lp_X12_made_136 g 5 o u2 u4 v1 (Z, I2, L3) r M')) : Lp_X12_made_128 g 5 o u1 u2 u3 u4 (Z, I, L) r M' := by
  refine fr_aload_n (i := 0) (q := 0) rfl dX12_made_128 rfl ?_
  refine fr_iload_n (i := 1) (q := 1) rfl dX12_made_129 rfl ?_
  refine fr_iload_n (i := 3) (q := 3) rfl dX12_made_130 rfl ?_
  obtain ⟨v1, I2, L3, hc4, h⟩ := h
  refine fr_callV2 (ν := mu_X12_doesAt) (st2 := [.int v1]) (As := [.int u1, .int u3]) (st := []) (v := (some (.int v1))) (M1 := (Z, I2, L3)) dX12_made_131 rfl ml_X12_291 mo_X12_doesAt mi_X12_doesAt (ci := 12) rfl rfl k_o (Nat.le_of_ble_eq_true rfl) rfl rfl (Nat.le_of_ble_eq_true rfl) hc4 rfl ?_
  refine fr_istore (lv' := [(6, .int v1), (0, rf g o), (1, .int u1), (2, .int u2), (3, .int u3), (4, .int u4)]) dX12_made_134 rfl (by decide) rfl ?_
  exact fr_sub [1, 3, 5, 0] rfl h
theorem wp_X12_made_136 {g : GE} {Z : Zs} {I : Nat → Nat → Int32} {L : Nat → Nat → Int64} {r : Option Value} {M' : Mem} {o : Nat} {u2 : Int32} {u4 : Int32} {u6 : Int32} (k_o : KM Z o 12) (h : (∀ y1 : Int32, y1 = (u2 - u2 / 4 * 4) → ((¬ u6 = 1 → ((¬ u6 = 0 → ((¬ u6 = 2 → ((¬ u6 = 3 → (r = some (.int ((u2 - y1) + ((y1 + 2) - (y1 + 2) / 4 * 4))) ∧ M' = (Z, I, L))) ∧ (u6 = 3 → (r = some (.int ((u2 - y1) + ((y1 + 1) - (y1 + 1) / 4 * 4))) ∧ M' = (Z, I, L))))) ∧ (u6 = 2 → (r = some (.int ((u2 - y1) + ((y1 + 3) - (y1 + 3) / 4 * 4))) ∧ M' = (Z, I, L))))) ∧ (u6 = 0 → (r = some (.int ((u2 - y1) + y1)) ∧ M' = (Z, I, L))))) ∧ (u6 = 1 → ((u4 < 0 → (r = some (.int (u2 + 200)) ∧ M' = (Z, I, L))) ∧ (¬ u4 < 0 → (∃ (v2 : Int32), Cl g 1 mu_X12_isWall [rf g o, .int u4] (Z, I, L) (some (.int v2)) (Z, I, L) ∧ ((v2 = 0 → (r = some (.int ((4 * u4) + y1)) ∧ M' = (Z, I, L))) ∧ (¬ v2 = 0 → (r = some (.int (u2 + 200)) ∧ M' = (Z, I, L))))))))))) : Lp_X12_made_136 g 5 o u2 u4 u6 (Z, I, L) r M' := by
  refine fr_iload_n (i := 2) (q := 1) rfl dX12_made_136 rfl ?_
  refine fr_iconst (v := 4) (by decide) dX12_made_137 rfl ?_
  refine fr_irem (by decide) dX12_made_138 rfl ?_
  refine fr_topi (fun y1 hy1 => ?_)
  have h := h y1 hy1
  refine fr_istore (lv' := [(7, .int y1), (0, rf g o), (2, .int u2), (4, .int u4), (6, .int u6)]) dX12_made_139 rfl (by decide) rfl ?_
  refine fr_iload (q := 4) rfl dX12_made_141 rfl ?_
  refine fr_iconst (v := 1) (by decide) dX12_made_143 rfl ?_
  refine fr_icmp_ne (tgt := 177) dX12_made_144 (by decide) rfl (fun hc => ?_) (fun hc => ?_)
  · have h := h.1 hc
    refine fr_iload_n (i := 2) (q := 2) rfl dX12_made_177 rfl ?_
    refine fr_iload (q := 0) rfl dX12_made_178 rfl ?_
    refine fr_isub dX12_made_180 rfl ?_
    refine fr_iload (q := 4) rfl dX12_made_181 rfl ?_
    refine fr_if_ne (tgt := 191) dX12_made_183 (by decide) rfl (fun hc => ?_) (fun hc => ?_)
    · have h := h.1 hc
      refine fr_iload (q := 4) rfl dX12_made_191 rfl ?_
      refine fr_iconst (v := 2) (by decide) dX12_made_193 rfl ?_
      refine fr_icmp_ne (tgt := 206) dX12_made_194 (by decide) rfl (fun hc => ?_) (fun hc => ?_)
      · have h := h.1 hc
        refine fr_iload (q := 4) rfl dX12_made_206 rfl ?_
        refine fr_iconst (v := 3) (by decide) dX12_made_208 rfl ?_
        refine fr_icmp_ne (tgt := 221) dX12_made_209 (by decide) rfl (fun hc => ?_) (fun hc => ?_)
        · have h := h.1 hc
          refine fr_iload (q := 0) rfl dX12_made_221 rfl ?_
          refine fr_iconst (v := 2) (by decide) dX12_made_223 rfl ?_
          refine fr_iadd dX12_made_224 rfl ?_
          refine fr_iconst (v := 4) (by decide) dX12_made_225 rfl ?_
          refine fr_irem (by decide) dX12_made_226 rfl ?_
          refine fr_iadd dX12_made_227 rfl ?_
          exact fr_iret rfl dX12_made_228 h.1 h.2
        · have h := h.2 hc
          refine fr_iload (q := 0) rfl dX12_made_212 rfl ?_
          refine fr_iconst (v := 1) (by decide) dX12_made_214 rfl ?_
          refine fr_iadd dX12_made_215 rfl ?_
          refine fr_iconst (v := 4) (by decide) dX12_made_216 rfl ?_
          refine fr_irem (by decide) dX12_made_217 rfl ?_
          refine fr_goto (n := 227) dX12_made_218 (by decide) ?_
          refine fr_iadd dX12_made_227 rfl ?_
          exact fr_iret rfl dX12_made_228 h.1 h.2
      · have h := h.2 hc
        refine fr_iload (q := 0) rfl dX12_made_197 rfl ?_
        refine fr_iconst (v := 3) (by decide) dX12_made_199 rfl ?_
        refine fr_iadd dX12_made_200 rfl ?_
        refine fr_iconst (v := 4) (by decide) dX12_made_201 rfl ?_
        refine fr_irem (by decide) dX12_made_202 rfl ?_
        refine fr_goto (n := 227) dX12_made_203 (by decide) ?_
        refine fr_iadd dX12_made_227 rfl ?_
        exact fr_iret rfl dX12_made_228 h.1 h.2
    · have h := h.2 hc
      refine fr_iload (q := 0) rfl dX12_made_186 rfl ?_
      refine fr_goto (n := 227) dX12_made_188 (by decide) ?_
      refine fr_iadd dX12_made_227 rfl ?_
      exact fr_iret rfl dX12_made_228 h.1 h.2
  · have h := h.2 hc
    refine fr_iload (q := 3) rfl dX12_made_147 rfl ?_
    refine fr_if_lt (tgt := 161) dX12_made_149 (by decide) rfl (fun hc => ?_) (fun hc => ?_)
    · have h := h.1 hc
      refine fr_iload_n (i := 2) (q := 2) rfl dX12_made_161 rfl ?_
      refine fr_sipush (v := 200) (by decide) dX12_made_162 rfl ?_
      refine fr_iadd dX12_made_165 rfl ?_
      refine fr_goto (n := 176) dX12_made_166 (by decide) ?_
      exact fr_iret rfl dX12_made_176 h.1 h.2
    · have h := h.2 hc
      refine fr_aload_n (i := 0) (q := 1) rfl dX12_made_152 rfl ?_
      refine fr_iload (q := 3) rfl dX12_made_153 rfl ?_
      obtain ⟨v2, hc3, h⟩ := h
      refine fr_callV2 (ν := mu_X12_isWall) (st2 := [.int v2]) (As := [.int u4]) (st := []) (v := (some (.int v2))) (M1 := (Z, I, L)) dX12_made_155 rfl ml_X12_99 mo_X12_isWall mi_X12_isWall (ci := 12) rfl rfl k_o (Nat.le_of_ble_eq_true rfl) rfl rfl (Nat.le_of_ble_eq_true rfl) hc3 rfl ?_
      refine fr_if_eq (tgt := 169) dX12_made_158 (by decide) rfl (fun hc => ?_) (fun hc => ?_)
      · have h := h.1 hc
        refine fr_iconst (v := 4) (by decide) dX12_made_169 rfl ?_
        refine fr_iload (q := 3) rfl dX12_made_170 rfl ?_
        refine fr_imul dX12_made_172 rfl ?_
        refine fr_iload (q := 0) rfl dX12_made_173 rfl ?_
        refine fr_iadd dX12_made_175 rfl ?_
        exact fr_iret rfl dX12_made_176 h.1 h.2
      · have h := h.2 hc
        refine fr_iload_n (i := 2) (q := 2) rfl dX12_made_161 rfl ?_
        refine fr_sipush (v := 200) (by decide) dX12_made_162 rfl ?_
        refine fr_iadd dX12_made_165 rfl ?_
        refine fr_goto (n := 176) dX12_made_166 (by decide) ?_
        exact fr_iret rfl dX12_made_176 h.1 h.2
abbrev Lp_X12_lay_2 (g : GE) (d : Nat) (o : Nat) (u1 : Int32) (u2 : Int32) (M : Mem) (r : Option Value) (M' : Mem) : Prop := Fr g d mu_X12_lay 2 [(0, rf g o), (1, .int u1), (2, .int u2)] [] M r M'
theorem cp_X12_lay {g : GE} {Z : Zs} {I : Nat → Nat → Int32} {L : Nat → Nat → Int64} {r : Option Value} {M' : Mem} {o : Nat} {x1 : Int32} (k_o : KM Z o 12) (h : Lp_X12_lay_2 g 6 o x1 0 (Z, I, L) r M') : Cl g 6 mu_X12_lay [rf g o, .int x1] (Z, I, L) r M' := by
  refine cl_of (lv := [(0, rf g o), (1, .int x1)]) (by decide) (Nat.le_of_ble_eq_true rfl) rfl ?_
  refine fr_iconst (v := 0) (by decide) dX12_lay_0 rfl ?_
  refine fr_istore_n (i := 2) (lv' := [(2, .int 0), (0, rf g o), (1, .int x1)]) dX12_lay_1 rfl (by decide) rfl ?_
  exact fr_sub [1, 2, 0] rfl h
abbrev Lp_X12_lay_19 (g : GE) (d : Nat) (o : Nat) (u1 : Int32) (u2 : Int32) (u3 : Int32) (M : Mem) (r : Option Value) (M' : Mem) : Prop := Fr g d mu_X12_lay 19 [(0, rf g o), (1, .int u1), (2, .int u2), (3, .int u3)] [] M r M'
theorem wp_X12_lay_2 {g : GE} {Z : Zs} {I : Nat → Nat → Int32} {L : Nat → Nat → Int64} {r : Option Value} {M' : Mem} {o : Nat} {u1 : Int32} {u2 : Int32} (k_o : KM Z o 12) (h : ((((4 * (I o 2)) * (I o 3)) ≤ u2 → (r = none ∧ M' = (Z, I, L))) ∧ (¬ ((4 * (I o 2)) * (I o 3)) ≤ u2 → Lp_X12_lay_19 g 6 o u1 u2 0 (Z, I, L) r M'))) : Lp_X12_lay_2 g 6 o u1 u2 (Z, I, L) r M' := by
  refine fr_iload_n (i := 2) (q := 2) rfl dX12_lay_2 rfl ?_
  refine fr_iconst (v := 4) (by decide) dX12_lay_3 rfl ?_
  refine fr_aload_n (i := 0) (q := 0) rfl dX12_lay_4 rfl ?_
  refine fr_getI dX12_lay_5 rfl fl_X12_85 k_o ?_
  refine fr_imul dX12_lay_8 rfl ?_
  refine fr_aload_n (i := 0) (q := 0) rfl dX12_lay_9 rfl ?_
  refine fr_getI dX12_lay_10 rfl fl_X12_88 k_o ?_
  refine fr_imul dX12_lay_13 rfl ?_
  refine fr_icmp_ge (tgt := 70) dX12_lay_14 (by decide) rfl (fun hc => ?_) (fun hc => ?_)
  · have h := h.1 hc
    exact fr_vret rfl dX12_lay_70 h.1 h.2
  · have h := h.2 hc
    refine fr_iconst (v := 0) (by decide) dX12_lay_17 rfl ?_
    refine fr_istore_n (i := 3) (lv' := [(3, .int 0), (0, rf g o), (1, .int u1), (2, .int u2)]) dX12_lay_18 rfl (by decide) rfl ?_
    exact fr_sub [1, 2, 3, 0] rfl h
theorem wp_X12_lay_19 {g : GE} {Z : Zs} {I : Nat → Nat → Int32} {L : Nat → Nat → Int64} {r : Option Value} {M' : Mem} {o : Nat} {u1 : Int32} {u2 : Int32} {u3 : Int32} {o_table : Nat} (k_o : KM Z o 12) (r_o_table : Z.2.1 o 27 = some o_table) (k_o_table : KM Z o_table 13) (h : ((4 ≤ u3 → (∀ y1 : Int32, y1 = (u2 + 1) → Lp_X12_lay_2 g 6 o u1 y1 (Z, I, L) r M')) ∧ (¬ 4 ≤ u3 → (∃ (v2 : Int32), Cl g 2 mu_X12_isPose [rf g o, .int u2] (Z, I, L) (some (.int v2)) (Z, I, L) ∧ ((v2 = 0 → (vp_in ((((100 * u1) + u2) * 4) + u3) (Z.2.2.1 o_table) ∧ (∀ I5 : Nat → Nat → Int32, I5 = rw1 I o_table (upd (I o_table) ((((100 * u1) + u2) * 4) + u3).toNatClampNeg u2) → (∀ y6 : Int32, y6 = (u3 + 1) → Lp_X12_lay_19 g 6 o u1 u2 y6 (Z, I5, L) r M')))) ∧ (¬ v2 = 0 → (∃ (v7 : Int32) (I8 : Nat → Nat → Int32) (L9 : Nat → Nat → Int64), Cl g 5 mu_X12_made [rf g o, .int u1, .int u2, .int u3] (Z, I, L) (some (.int v7)) (Z, I8, L9) ∧ (vp_in ((((100 * u1) + u2) * 4) + u3) (Z.2.2.1 o_table) ∧ (∀ I12 : Nat → Nat → Int32, I12 = rw1 I8 o_table (upd (I8 o_table) ((((100 * u1) + u2) * 4) + u3).toNatClampNeg v7) → (∀ y13 : Int32, y13 = (u3 + 1) → Lp_X12_lay_19 g 6 o u1 u2 y13 (Z, I12, L9) r M')))))))))) : Lp_X12_lay_19 g 6 o u1 u2 u3 (Z, I, L) r M' := by
  refine fr_iload_n (i := 3) (q := 3) rfl dX12_lay_19 rfl ?_
  refine fr_iconst (v := 4) (by decide) dX12_lay_20 rfl ?_
  refine fr_icmp_ge (tgt := 64) dX12_lay_21 (by decide) rfl (fun hc => ?_) (fun hc => ?_)
  · have h := h.1 hc
    obtain ⟨y1, hy1⟩ : ∃ y : Int32, y = u2 + 1 := ⟨_, rfl⟩
    have h := h y1 hy1
    refine fr_iinc (q := 2) (v := y1) (lv' := [(2, .int y1), (0, rf g o), (1, .int u1), (3, .int u3)]) rfl (by rw [hy1]; rfl) dX12_lay_64 rfl (by decide) rfl ?_
    refine fr_goto (n := 2) dX12_lay_67 (by decide) ?_
    exact fr_sub [1, 2, 0] rfl h
  · have h := h.2 hc
    refine fr_aload_n (i := 0) (q := 0) rfl dX12_lay_24 rfl ?_
    refine fr_getR dX12_lay_25 rfl fl_X12_43 k_o r_o_table ?_
    refine fr_bipush (v := 100) (by decide) dX12_lay_28 rfl ?_
    refine fr_iload_n (i := 1) (q := 1) rfl dX12_lay_30 rfl ?_
    refine fr_imul dX12_lay_31 rfl ?_
    refine fr_iload_n (i := 2) (q := 2) rfl dX12_lay_32 rfl ?_
    refine fr_iadd dX12_lay_33 rfl ?_
    refine fr_iconst (v := 4) (by decide) dX12_lay_34 rfl ?_
    refine fr_imul dX12_lay_35 rfl ?_
    refine fr_iload_n (i := 3) (q := 3) rfl dX12_lay_36 rfl ?_
    refine fr_iadd dX12_lay_37 rfl ?_
    refine fr_aload_n (i := 0) (q := 0) rfl dX12_lay_38 rfl ?_
    refine fr_iload_n (i := 2) (q := 2) rfl dX12_lay_39 rfl ?_
    obtain ⟨v2, hc3, h⟩ := h
    refine fr_callV2 (ν := mu_X12_isPose) (st2 := [.int v2, .int ((((100 * u1) + u2) * 4) + u3), rf g o_table]) (As := [.int u2]) (st := [.int ((((100 * u1) + u2) * 4) + u3), rf g o_table]) (v := (some (.int v2))) (M1 := (Z, I, L)) dX12_lay_40 rfl ml_X12_110 mo_X12_isPose mi_X12_isPose (ci := 12) rfl rfl k_o (Nat.le_of_ble_eq_true rfl) rfl rfl (Nat.le_of_ble_eq_true rfl) hc3 rfl ?_
    refine fr_if_eq (tgt := 56) dX12_lay_43 (by decide) rfl (fun hc => ?_) (fun hc => ?_)
    · have h := h.1 hc
      refine fr_iload_n (i := 2) (q := 2) rfl dX12_lay_56 rfl ?_
      obtain ⟨hz4, h⟩ := h
      refine fr_iast dX12_lay_57 rfl k_o_table hz4 ?_
      refine fr_memI (fun I5 hI5 => ?_)
      have h := h I5 hI5
      obtain ⟨y6, hy6⟩ : ∃ y : Int32, y = u3 + 1 := ⟨_, rfl⟩
      have h := h y6 hy6
      refine fr_iinc (q := 3) (v := y6) (lv' := [(3, .int y6), (0, rf g o), (1, .int u1), (2, .int u2)]) rfl (by rw [hy6]; rfl) dX12_lay_58 rfl (by decide) rfl ?_
      refine fr_goto (n := 19) dX12_lay_61 (by decide) ?_
      exact fr_sub [1, 2, 3, 0] rfl h
    · have h := h.2 hc
      refine fr_aload_n (i := 0) (q := 0) rfl dX12_lay_46 rfl ?_
      refine fr_iload_n (i := 1) (q := 1) rfl dX12_lay_47 rfl ?_
      refine fr_iload_n (i := 2) (q := 2) rfl dX12_lay_48 rfl ?_
      refine fr_iload_n (i := 3) (q := 3) rfl dX12_lay_49 rfl ?_
      obtain ⟨v7, I8, L9, hc10, h⟩ := h
      refine fr_callV2 (ν := mu_X12_made) (st2 := [.int v7, .int ((((100 * u1) + u2) * 4) + u3), rf g o_table]) (As := [.int u1, .int u2, .int u3]) (st := [.int ((((100 * u1) + u2) * 4) + u3), rf g o_table]) (v := (some (.int v7))) (M1 := (Z, I8, L9)) dX12_lay_50 rfl ml_X12_294 mo_X12_made mi_X12_made (ci := 12) rfl rfl k_o (Nat.le_of_ble_eq_true rfl) rfl rfl (Nat.le_of_ble_eq_true rfl) hc10 rfl ?_
      refine fr_goto (n := 57) dX12_lay_53 (by decide) ?_
      obtain ⟨hz11, h⟩ := h
      refine fr_iast dX12_lay_57 rfl k_o_table hz11 ?_
      refine fr_memI (fun I12 hI12 => ?_)
      have h := h I12 hI12
      obtain ⟨y13, hy13⟩ : ∃ y : Int32, y = u3 + 1 := ⟨_, rfl⟩
      have h := h y13 hy13
      refine fr_iinc (q := 3) (v := y13) (lv' := [(3, .int y13), (0, rf g o), (1, .int u1), (2, .int u2)]) rfl (by rw [hy13]; rfl) dX12_lay_58 rfl (by decide) rfl ?_
      refine fr_goto (n := 19) dX12_lay_61 (by decide) ?_
      exact fr_sub [1, 2, 3, 0] rfl h
theorem cp_X12_laid {g : GE} {Z : Zs} {I : Nat → Nat → Int32} {L : Nat → Nat → Int64} {r : Option Value} {M' : Mem} {o : Nat} {x1 : Int32} {x2 : Int32} {x3 : Int32} {o_table : Nat} (k_o : KM Z o 12) (r_o_table : Z.2.1 o 27 = some o_table) (k_o_table : KM Z o_table 13) (h : (vp_in ((((100 * x1) + x2) * 4) + x3) (Z.2.2.1 o_table) ∧ (r = some (.int (I o_table ((((100 * x1) + x2) * 4) + x3).toNatClampNeg)) ∧ M' = (Z, I, L)))) : Cl g 1 mu_X12_laid [rf g o, .int x1, .int x2, .int x3] (Z, I, L) r M' := by
  refine cl_of (lv := [(0, rf g o), (1, .int x1), (2, .int x2), (3, .int x3)]) (by decide) (Nat.le_of_ble_eq_true rfl) rfl ?_
  refine fr_aload_n (i := 0) (q := 0) rfl dX12_laid_0 rfl ?_
  refine fr_getR dX12_laid_1 rfl fl_X12_43 k_o r_o_table ?_
  refine fr_bipush (v := 100) (by decide) dX12_laid_4 rfl ?_
  refine fr_iload_n (i := 1) (q := 1) rfl dX12_laid_6 rfl ?_
  refine fr_imul dX12_laid_7 rfl ?_
  refine fr_iload_n (i := 2) (q := 2) rfl dX12_laid_8 rfl ?_
  refine fr_iadd dX12_laid_9 rfl ?_
  refine fr_iconst (v := 4) (by decide) dX12_laid_10 rfl ?_
  refine fr_imul dX12_laid_11 rfl ?_
  refine fr_iload_n (i := 3) (q := 3) rfl dX12_laid_12 rfl ?_
  refine fr_iadd dX12_laid_13 rfl ?_
  obtain ⟨hz1, h⟩ := h
  refine fr_iald dX12_laid_14 rfl k_o_table hz1 ?_
  exact fr_iret rfl dX12_laid_15 h.1 h.2
theorem cp_X12_then {g : GE} {Z : Zs} {I : Nat → Nat → Int32} {L : Nat → Nat → Int64} {r : Option Value} {M' : Mem} {o : Nat} {x1 : Int32} {x2 : Int32} {x3 : Int32} (k_o : KM Z o 12) (h : (∃ (v1 : Int32), Cl g 1 mu_X12_laid [rf g o, .int x1, .int x2, .int x3] (Z, I, L) (some (.int v1)) (Z, I, L) ∧ (r = some (.int (v1 - v1 / 200 * 200)) ∧ M' = (Z, I, L)))) : Cl g 2 mu_X12_then [rf g o, .int x1, .int x2, .int x3] (Z, I, L) r M' := by
  refine cl_of (lv := [(0, rf g o), (1, .int x1), (2, .int x2), (3, .int x3)]) (by decide) (Nat.le_of_ble_eq_true rfl) rfl ?_
  refine fr_aload_n (i := 0) (q := 0) rfl dX12_then_0 rfl ?_
  refine fr_iload_n (i := 1) (q := 1) rfl dX12_then_1 rfl ?_
  refine fr_iload_n (i := 2) (q := 2) rfl dX12_then_2 rfl ?_
  refine fr_iload_n (i := 3) (q := 3) rfl dX12_then_3 rfl ?_
  obtain ⟨v1, hc2, h⟩ := h
  refine fr_callV2 (ν := mu_X12_laid) (st2 := [.int v1]) (As := [.int x1, .int x2, .int x3]) (st := []) (v := (some (.int v1))) (M1 := (Z, I, L)) dX12_then_4 rfl ml_X12_298 mo_X12_laid mi_X12_laid (ci := 12) rfl rfl k_o (Nat.le_of_ble_eq_true rfl) rfl rfl (Nat.le_of_ble_eq_true rfl) hc2 rfl ?_
  refine fr_sipush (v := 200) (by decide) dX12_then_7 rfl ?_
  refine fr_irem (by decide) dX12_then_10 rfl ?_
  exact fr_iret rfl dX12_then_11 h.1 h.2
theorem cp_X12_goes {g : GE} {Z : Zs} {I : Nat → Nat → Int32} {L : Nat → Nat → Int64} {r : Option Value} {M' : Mem} {o : Nat} {x1 : Int32} {x2 : Int32} {x3 : Int32} (k_o : KM Z o 12) (h : (∃ (v1 : Int32), Cl g 2 mu_X12_isText [rf g o, .int x1] (Z, I, L) (some (.int v1)) (Z, I, L) ∧ ((v1 = 0 → (r = some (.int ((-1))) ∧ M' = (Z, I, L))) ∧ (¬ v1 = 0 → (∃ (v3 : Int32), Cl g 2 mu_X12_isPose [rf g o, .int x2] (Z, I, L) (some (.int v3)) (Z, I, L) ∧ ((v3 = 0 → (r = some (.int ((-1))) ∧ M' = (Z, I, L))) ∧ (¬ v3 = 0 → (∃ (v5 : Int32), Cl g 1 mu_X12_isIn [.int x3, .int 0, .int 3] (Z, I, L) (some (.int v5)) (Z, I, L) ∧ ((v5 = 0 → (r = some (.int ((-1))) ∧ M' = (Z, I, L))) ∧ (¬ v5 = 0 → (∃ (v7 : Int32) (I8 : Nat → Nat → Int32) (L9 : Nat → Nat → Int64), Cl g 5 mu_X12_made [rf g o, .int x1, .int x2, .int x3] (Z, I, L) (some (.int v7)) (Z, I8, L9) ∧ (r = some (.int v7) ∧ M' = (Z, I8, L9))))))))))))) : Cl g 6 mu_X12_goes [rf g o, .int x1, .int x2, .int x3] (Z, I, L) r M' := by
  refine cl_of (lv := [(0, rf g o), (1, .int x1), (2, .int x2), (3, .int x3)]) (by decide) (Nat.le_of_ble_eq_true rfl) rfl ?_
  refine fr_aload_n (i := 0) (q := 0) rfl dX12_goes_0 rfl ?_
  refine fr_iload_n (i := 1) (q := 1) rfl dX12_goes_1 rfl ?_
  obtain ⟨v1, hc2, h⟩ := h
  refine fr_callV2 (ν := mu_X12_isText) (st2 := [.int v1]) (As := [.int x1]) (st := []) (v := (some (.int v1))) (M1 := (Z, I, L)) dX12_goes_2 rfl ml_X12_113 mo_X12_isText mi_X12_isText (ci := 12) rfl rfl k_o (Nat.le_of_ble_eq_true rfl) rfl rfl (Nat.le_of_ble_eq_true rfl) hc2 rfl ?_
  refine fr_if_eq (tgt := 35) dX12_goes_5 (by decide) rfl (fun hc => ?_) (fun hc => ?_)
  · have h := h.1 hc
    refine fr_iconst (v := (-1)) (by decide) dX12_goes_35 rfl ?_
    exact fr_iret rfl dX12_goes_36 h.1 h.2
  · have h := h.2 hc
    refine fr_aload_n (i := 0) (q := 0) rfl dX12_goes_8 rfl ?_
    refine fr_iload_n (i := 2) (q := 2) rfl dX12_goes_9 rfl ?_
    obtain ⟨v3, hc4, h⟩ := h
    refine fr_callV2 (ν := mu_X12_isPose) (st2 := [.int v3]) (As := [.int x2]) (st := []) (v := (some (.int v3))) (M1 := (Z, I, L)) dX12_goes_10 rfl ml_X12_110 mo_X12_isPose mi_X12_isPose (ci := 12) rfl rfl k_o (Nat.le_of_ble_eq_true rfl) rfl rfl (Nat.le_of_ble_eq_true rfl) hc4 rfl ?_
    refine fr_if_eq (tgt := 35) dX12_goes_13 (by decide) rfl (fun hc => ?_) (fun hc => ?_)
    · have h := h.1 hc
      refine fr_iconst (v := (-1)) (by decide) dX12_goes_35 rfl ?_
      exact fr_iret rfl dX12_goes_36 h.1 h.2
    · have h := h.2 hc
      refine fr_iload_n (i := 3) (q := 3) rfl dX12_goes_16 rfl ?_
      refine fr_iconst (v := 0) (by decide) dX12_goes_17 rfl ?_
      refine fr_iconst (v := 3) (by decide) dX12_goes_18 rfl ?_
      obtain ⟨v5, hc6, h⟩ := h
      refine fr_callS2 (ν := mu_X12_isIn) (st2 := [.int v5]) (As := [.int x3, .int 0, .int 3]) (st := []) (v := (some (.int v5))) (M1 := (Z, I, L)) dX12_goes_19 rfl ml_X12_95 mo_X12_isIn ms_X12_isIn (Nat.le_of_ble_eq_true rfl) rfl rfl (Nat.le_of_ble_eq_true rfl) hc6 rfl ?_
      refine fr_if_eq (tgt := 35) dX12_goes_22 (by decide) rfl (fun hc => ?_) (fun hc => ?_)
      · have h := h.1 hc
        refine fr_iconst (v := (-1)) (by decide) dX12_goes_35 rfl ?_
        exact fr_iret rfl dX12_goes_36 h.1 h.2
      · have h := h.2 hc
        refine fr_aload_n (i := 0) (q := 0) rfl dX12_goes_25 rfl ?_
        refine fr_iload_n (i := 1) (q := 1) rfl dX12_goes_26 rfl ?_
        refine fr_iload_n (i := 2) (q := 2) rfl dX12_goes_27 rfl ?_
        refine fr_iload_n (i := 3) (q := 3) rfl dX12_goes_28 rfl ?_
        obtain ⟨v7, I8, L9, hc10, h⟩ := h
        refine fr_callV2 (ν := mu_X12_made) (st2 := [.int v7]) (As := [.int x1, .int x2, .int x3]) (st := []) (v := (some (.int v7))) (M1 := (Z, I8, L9)) dX12_goes_29 rfl ml_X12_294 mo_X12_made mi_X12_made (ci := 12) rfl rfl k_o (Nat.le_of_ble_eq_true rfl) rfl rfl (Nat.le_of_ble_eq_true rfl) hc10 rfl ?_
        refine fr_goto (n := 36) dX12_goes_32 (by decide) ?_
        exact fr_iret rfl dX12_goes_36 h.1 h.2
abbrev Lp_X12_keep_13 (g : GE) (d : Nat) (o : Nat) (u1 : Int32) (u2 : Int32) (M : Mem) (r : Option Value) (M' : Mem) : Prop := Fr g d mu_X12_keep 13 [(0, rf g o), (1, .int u1), (2, .int u2)] [] M r M'
theorem cp_X12_keep {g : GE} {Z : Zs} {I : Nat → Nat → Int32} {L : Nat → Nat → Int64} {r : Option Value} {M' : Mem} {o : Nat} {x1 : Int32} {o_a : Nat} (k_o : KM Z o 12) (r_o_a : Z.2.1 o 0 = some o_a) (k_o_a : KM Z o_a 13) (h : (vp_in 3 (Z.2.2.1 o_a) ∧ ((¬ (I o_a (3 : Int32).toNatClampNeg) = 30 → (vp_in 3 (Z.2.2.1 o_a) ∧ (vp_in (70 + (2 * (I o_a (3 : Int32).toNatClampNeg))) (Z.2.2.1 o_a) ∧ (∀ I4 : Nat → Nat → Int32, I4 = rw1 I o_a (upd (I o_a) (70 + (2 * (I o_a (3 : Int32).toNatClampNeg))).toNatClampNeg x1) → (vp_in 3 (Z.2.2.1 o_a) ∧ (∃ (v6 : Int32), Cl g 1 mu_X12_poseOf [rf g o, .int x1] (Z, I4, L) (some (.int v6)) (Z, I4, L) ∧ (vp_in ((70 + (2 * (I4 o_a (3 : Int32).toNatClampNeg))) + 1) (Z.2.2.1 o_a) ∧ (∀ I9 : Nat → Nat → Int32, I9 = rw1 I4 o_a (upd (I4 o_a) ((70 + (2 * (I4 o_a (3 : Int32).toNatClampNeg))) + 1).toNatClampNeg v6) → (vp_in 3 (Z.2.2.1 o_a) ∧ (vp_in 3 (Z.2.2.1 o_a) ∧ (∀ I12 : Nat → Nat → Int32, I12 = rw1 I9 o_a (upd (I9 o_a) (3 : Int32).toNatClampNeg ((I9 o_a (3 : Int32).toNatClampNeg) + 1)) → (r = none ∧ M' = (Z, I12, L))))))))))))) ∧ ((I o_a (3 : Int32).toNatClampNeg) = 30 → Lp_X12_keep_13 g 2 o x1 0 (Z, I, L) r M')))) : Cl g 2 mu_X12_keep [rf g o, .int x1] (Z, I, L) r M' := by
  refine cl_of (lv := [(0, rf g o), (1, .int x1)]) (by decide) (Nat.le_of_ble_eq_true rfl) rfl ?_
  refine fr_aload_n (i := 0) (q := 0) rfl dX12_keep_0 rfl ?_
  refine fr_getR dX12_keep_1 rfl fl_X12_7 k_o r_o_a ?_
  refine fr_iconst (v := 3) (by decide) dX12_keep_4 rfl ?_
  obtain ⟨hz1, h⟩ := h
  refine fr_iald dX12_keep_5 rfl k_o_a hz1 ?_
  refine fr_bipush (v := 30) (by decide) dX12_keep_6 rfl ?_
  refine fr_icmp_ne (tgt := 55) dX12_keep_8 (by decide) rfl (fun hc => ?_) (fun hc => ?_)
  · have h := h.1 hc
    refine fr_aload_n (i := 0) (q := 0) rfl dX12_keep_55 rfl ?_
    refine fr_getR dX12_keep_56 rfl fl_X12_7 k_o r_o_a ?_
    refine fr_bipush (v := 70) (by decide) dX12_keep_59 rfl ?_
    refine fr_iconst (v := 2) (by decide) dX12_keep_61 rfl ?_
    refine fr_aload_n (i := 0) (q := 0) rfl dX12_keep_62 rfl ?_
    refine fr_getR dX12_keep_63 rfl fl_X12_7 k_o r_o_a ?_
    refine fr_iconst (v := 3) (by decide) dX12_keep_66 rfl ?_
    obtain ⟨hz2, h⟩ := h
    refine fr_iald dX12_keep_67 rfl k_o_a hz2 ?_
    refine fr_imul dX12_keep_68 rfl ?_
    refine fr_iadd dX12_keep_69 rfl ?_
    refine fr_iload_n (i := 1) (q := 1) rfl dX12_keep_70 rfl ?_
    obtain ⟨hz3, h⟩ := h
    refine fr_iast dX12_keep_71 rfl k_o_a hz3 ?_
    refine fr_memI (fun I4 hI4 => ?_)
    have h := h I4 hI4
    refine fr_aload_n (i := 0) (q := 0) rfl dX12_keep_72 rfl ?_
    refine fr_getR dX12_keep_73 rfl fl_X12_7 k_o r_o_a ?_
    refine fr_bipush (v := 70) (by decide) dX12_keep_76 rfl ?_
    refine fr_iconst (v := 2) (by decide) dX12_keep_78 rfl ?_
    refine fr_aload_n (i := 0) (q := 0) rfl dX12_keep_79 rfl ?_
    refine fr_getR dX12_keep_80 rfl fl_X12_7 k_o r_o_a ?_
    refine fr_iconst (v := 3) (by decide) dX12_keep_83 rfl ?_
    obtain ⟨hz5, h⟩ := h
    refine fr_iald dX12_keep_84 rfl k_o_a hz5 ?_
    refine fr_imul dX12_keep_85 rfl ?_
    refine fr_iadd dX12_keep_86 rfl ?_
    refine fr_iconst (v := 1) (by decide) dX12_keep_87 rfl ?_
    refine fr_iadd dX12_keep_88 rfl ?_
    refine fr_aload_n (i := 0) (q := 0) rfl dX12_keep_89 rfl ?_
    refine fr_iload_n (i := 1) (q := 1) rfl dX12_keep_90 rfl ?_
    obtain ⟨v6, hc7, h⟩ := h
    refine fr_callV2 (ν := mu_X12_poseOf) (st2 := [.int v6, .int ((70 + (2 * (I4 o_a (3 : Int32).toNatClampNeg))) + 1), rf g o_a]) (As := [.int x1]) (st := [.int ((70 + (2 * (I4 o_a (3 : Int32).toNatClampNeg))) + 1), rf g o_a]) (v := (some (.int v6))) (M1 := (Z, I4, L)) dX12_keep_91 rfl ml_X12_106 mo_X12_poseOf mi_X12_poseOf (ci := 12) rfl rfl k_o (Nat.le_of_ble_eq_true rfl) rfl rfl (Nat.le_of_ble_eq_true rfl) hc7 rfl ?_
    obtain ⟨hz8, h⟩ := h
    refine fr_iast dX12_keep_94 rfl k_o_a hz8 ?_
    refine fr_memI (fun I9 hI9 => ?_)
    have h := h I9 hI9
    refine fr_aload_n (i := 0) (q := 0) rfl dX12_keep_95 rfl ?_
    refine fr_getR dX12_keep_96 rfl fl_X12_7 k_o r_o_a ?_
    refine fr_iconst (v := 3) (by decide) dX12_keep_99 rfl ?_
    refine fr_dup2 rfl rfl dX12_keep_100 rfl ?_
    obtain ⟨hz10, h⟩ := h
    refine fr_iald dX12_keep_101 rfl k_o_a hz10 ?_
    refine fr_iconst (v := 1) (by decide) dX12_keep_102 rfl ?_
    refine fr_iadd dX12_keep_103 rfl ?_
    obtain ⟨hz11, h⟩ := h
    refine fr_iast dX12_keep_104 rfl k_o_a hz11 ?_
    refine fr_memI (fun I12 hI12 => ?_)
    have h := h I12 hI12
    exact fr_vret rfl dX12_keep_105 h.1 h.2
  · have h := h.2 hc
    refine fr_iconst (v := 0) (by decide) dX12_keep_11 rfl ?_
    refine fr_istore_n (i := 2) (lv' := [(2, .int 0), (0, rf g o), (1, .int x1)]) dX12_keep_12 rfl (by decide) rfl ?_
    exact fr_sub [1, 2, 0] rfl h
theorem wp_X12_keep_13 {g : GE} {Z : Zs} {I : Nat → Nat → Int32} {L : Nat → Nat → Int64} {r : Option Value} {M' : Mem} {o : Nat} {u1 : Int32} {u2 : Int32} {o_a : Nat} (k_o : KM Z o 12) (r_o_a : Z.2.1 o 0 = some o_a) (k_o_a : KM Z o_a 13) (h : ((58 ≤ u2 → (vp_in 3 (Z.2.2.1 o_a) ∧ (vp_in 3 (Z.2.2.1 o_a) ∧ (∀ I3 : Nat → Nat → Int32, I3 = rw1 I o_a (upd (I o_a) (3 : Int32).toNatClampNeg ((I o_a (3 : Int32).toNatClampNeg) - 1)) → (vp_in 3 (Z.2.2.1 o_a) ∧ (vp_in (70 + (2 * (I3 o_a (3 : Int32).toNatClampNeg))) (Z.2.2.1 o_a) ∧ (∀ I6 : Nat → Nat → Int32, I6 = rw1 I3 o_a (upd (I3 o_a) (70 + (2 * (I3 o_a (3 : Int32).toNatClampNeg))).toNatClampNeg u1) → (vp_in 3 (Z.2.2.1 o_a) ∧ (∃ (v8 : Int32), Cl g 1 mu_X12_poseOf [rf g o, .int u1] (Z, I6, L) (some (.int v8)) (Z, I6, L) ∧ (vp_in ((70 + (2 * (I6 o_a (3 : Int32).toNatClampNeg))) + 1) (Z.2.2.1 o_a) ∧ (∀ I11 : Nat → Nat → Int32, I11 = rw1 I6 o_a (upd (I6 o_a) ((70 + (2 * (I6 o_a (3 : Int32).toNatClampNeg))) + 1).toNatClampNeg v8) → (vp_in 3 (Z.2.2.1 o_a) ∧ (vp_in 3 (Z.2.2.1 o_a) ∧ (∀ I14 : Nat → Nat → Int32, I14 = rw1 I11 o_a (upd (I11 o_a) (3 : Int32).toNatClampNeg ((I11 o_a (3 : Int32).toNatClampNeg) + 1)) → (r = none ∧ M' = (Z, I14, L)))))))))))))))) ∧ (¬ 58 ≤ u2 → (vp_in ((70 + u2) + 2) (Z.2.2.1 o_a) ∧ (vp_in (70 + u2) (Z.2.2.1 o_a) ∧ (∀ I17 : Nat → Nat → Int32, I17 = rw1 I o_a (upd (I o_a) (70 + u2).toNatClampNeg (I o_a ((70 + u2) + 2).toNatClampNeg)) → (∀ y18 : Int32, y18 = (u2 + 1) → Lp_X12_keep_13 g 2 o u1 y18 (Z, I17, L) r M'))))))) : Lp_X12_keep_13 g 2 o u1 u2 (Z, I, L) r M' := by
  refine fr_iload_n (i := 2) (q := 2) rfl dX12_keep_13 rfl ?_
  refine fr_bipush (v := 58) (by decide) dX12_keep_14 rfl ?_
  refine fr_icmp_ge (tgt := 45) dX12_keep_16 (by decide) rfl (fun hc => ?_) (fun hc => ?_)
  · have h := h.1 hc
    refine fr_aload_n (i := 0) (q := 0) rfl dX12_keep_45 rfl ?_
    refine fr_getR dX12_keep_46 rfl fl_X12_7 k_o r_o_a ?_
    refine fr_iconst (v := 3) (by decide) dX12_keep_49 rfl ?_
    refine fr_dup2 rfl rfl dX12_keep_50 rfl ?_
    obtain ⟨hz1, h⟩ := h
    refine fr_iald dX12_keep_51 rfl k_o_a hz1 ?_
    refine fr_iconst (v := 1) (by decide) dX12_keep_52 rfl ?_
    refine fr_isub dX12_keep_53 rfl ?_
    obtain ⟨hz2, h⟩ := h
    refine fr_iast dX12_keep_54 rfl k_o_a hz2 ?_
    refine fr_memI (fun I3 hI3 => ?_)
    have h := h I3 hI3
    refine fr_aload_n (i := 0) (q := 0) rfl dX12_keep_55 rfl ?_
    refine fr_getR dX12_keep_56 rfl fl_X12_7 k_o r_o_a ?_
    refine fr_bipush (v := 70) (by decide) dX12_keep_59 rfl ?_
    refine fr_iconst (v := 2) (by decide) dX12_keep_61 rfl ?_
    refine fr_aload_n (i := 0) (q := 0) rfl dX12_keep_62 rfl ?_
    refine fr_getR dX12_keep_63 rfl fl_X12_7 k_o r_o_a ?_
    refine fr_iconst (v := 3) (by decide) dX12_keep_66 rfl ?_
    obtain ⟨hz4, h⟩ := h
    refine fr_iald dX12_keep_67 rfl k_o_a hz4 ?_
    refine fr_imul dX12_keep_68 rfl ?_
    refine fr_iadd dX12_keep_69 rfl ?_
    refine fr_iload_n (i := 1) (q := 1) rfl dX12_keep_70 rfl ?_
    obtain ⟨hz5, h⟩ := h
    refine fr_iast dX12_keep_71 rfl k_o_a hz5 ?_
    refine fr_memI (fun I6 hI6 => ?_)
    have h := h I6 hI6
    refine fr_aload_n (i := 0) (q := 0) rfl dX12_keep_72 rfl ?_
    refine fr_getR dX12_keep_73 rfl fl_X12_7 k_o r_o_a ?_
    refine fr_bipush (v := 70) (by decide) dX12_keep_76 rfl ?_
    refine fr_iconst (v := 2) (by decide) dX12_keep_78 rfl ?_
    refine fr_aload_n (i := 0) (q := 0) rfl dX12_keep_79 rfl ?_
    refine fr_getR dX12_keep_80 rfl fl_X12_7 k_o r_o_a ?_
    refine fr_iconst (v := 3) (by decide) dX12_keep_83 rfl ?_
    obtain ⟨hz7, h⟩ := h
    refine fr_iald dX12_keep_84 rfl k_o_a hz7 ?_
    refine fr_imul dX12_keep_85 rfl ?_
    refine fr_iadd dX12_keep_86 rfl ?_
    refine fr_iconst (v := 1) (by decide) dX12_keep_87 rfl ?_
    refine fr_iadd dX12_keep_88 rfl ?_
    refine fr_aload_n (i := 0) (q := 0) rfl dX12_keep_89 rfl ?_
    refine fr_iload_n (i := 1) (q := 1) rfl dX12_keep_90 rfl ?_
    obtain ⟨v8, hc9, h⟩ := h
    refine fr_callV2 (ν := mu_X12_poseOf) (st2 := [.int v8, .int ((70 + (2 * (I6 o_a (3 : Int32).toNatClampNeg))) + 1), rf g o_a]) (As := [.int u1]) (st := [.int ((70 + (2 * (I6 o_a (3 : Int32).toNatClampNeg))) + 1), rf g o_a]) (v := (some (.int v8))) (M1 := (Z, I6, L)) dX12_keep_91 rfl ml_X12_106 mo_X12_poseOf mi_X12_poseOf (ci := 12) rfl rfl k_o (Nat.le_of_ble_eq_true rfl) rfl rfl (Nat.le_of_ble_eq_true rfl) hc9 rfl ?_
    obtain ⟨hz10, h⟩ := h
    refine fr_iast dX12_keep_94 rfl k_o_a hz10 ?_
    refine fr_memI (fun I11 hI11 => ?_)
    have h := h I11 hI11
    refine fr_aload_n (i := 0) (q := 0) rfl dX12_keep_95 rfl ?_
    refine fr_getR dX12_keep_96 rfl fl_X12_7 k_o r_o_a ?_
    refine fr_iconst (v := 3) (by decide) dX12_keep_99 rfl ?_
    refine fr_dup2 rfl rfl dX12_keep_100 rfl ?_
    obtain ⟨hz12, h⟩ := h
    refine fr_iald dX12_keep_101 rfl k_o_a hz12 ?_
    refine fr_iconst (v := 1) (by decide) dX12_keep_102 rfl ?_
    refine fr_iadd dX12_keep_103 rfl ?_
    obtain ⟨hz13, h⟩ := h
    refine fr_iast dX12_keep_104 rfl k_o_a hz13 ?_
    refine fr_memI (fun I14 hI14 => ?_)
    have h := h I14 hI14
    exact fr_vret rfl dX12_keep_105 h.1 h.2
  · have h := h.2 hc
    refine fr_aload_n (i := 0) (q := 0) rfl dX12_keep_19 rfl ?_
    refine fr_getR dX12_keep_20 rfl fl_X12_7 k_o r_o_a ?_
    refine fr_bipush (v := 70) (by decide) dX12_keep_23 rfl ?_
    refine fr_iload_n (i := 2) (q := 2) rfl dX12_keep_25 rfl ?_
    refine fr_iadd dX12_keep_26 rfl ?_
    refine fr_aload_n (i := 0) (q := 0) rfl dX12_keep_27 rfl ?_
    refine fr_getR dX12_keep_28 rfl fl_X12_7 k_o r_o_a ?_
    refine fr_bipush (v := 70) (by decide) dX12_keep_31 rfl ?_
    refine fr_iload_n (i := 2) (q := 2) rfl dX12_keep_33 rfl ?_
    refine fr_iadd dX12_keep_34 rfl ?_
    refine fr_iconst (v := 2) (by decide) dX12_keep_35 rfl ?_
    refine fr_iadd dX12_keep_36 rfl ?_
    obtain ⟨hz15, h⟩ := h
    refine fr_iald dX12_keep_37 rfl k_o_a hz15 ?_
    obtain ⟨hz16, h⟩ := h
    refine fr_iast dX12_keep_38 rfl k_o_a hz16 ?_
    refine fr_memI (fun I17 hI17 => ?_)
    have h := h I17 hI17
    obtain ⟨y18, hy18⟩ : ∃ y : Int32, y = u2 + 1 := ⟨_, rfl⟩
    have h := h y18 hy18
    refine fr_iinc (q := 2) (v := y18) (lv' := [(2, .int y18), (0, rf g o), (1, .int u1)]) rfl (by rw [hy18]; rfl) dX12_keep_39 rfl (by decide) rfl ?_
    refine fr_goto (n := 13) dX12_keep_42 (by decide) ?_
    exact fr_sub [1, 2, 0] rfl h
theorem cp_X12_tap {g : GE} {Z : Zs} {I : Nat → Nat → Int32} {L : Nat → Nat → Int64} {r : Option Value} {M' : Mem} {o : Nat} {x1 : Int32} {x2 : Int32} {o_a : Nat} (k_o : KM Z o 12) (r_o_a : Z.2.1 o 0 = some o_a) (k_o_a : KM Z o_a 13) (h : (∃ (v1 : Int32), Cl g 2 mu_X12_isPair [rf g o, .int x1] (Z, I, L) (some (.int v1)) (Z, I, L) ∧ ((v1 = 0 → (r = some (.int ((-1))) ∧ M' = (Z, I, L))) ∧ (¬ v1 = 0 → (∃ (v3 : Int32), Cl g 1 mu_X12_isIn [.int x2, .int 0, .int 3] (Z, I, L) (some (.int v3)) (Z, I, L) ∧ ((¬ v3 = 0 → (∃ (I5 : Nat → Nat → Int32) (L6 : Nat → Nat → Int64), Cl g 2 mu_X12_keep [rf g o, .int x1] (Z, I, L) none (Z, I5, L6) ∧ (∃ (v8 : Int32), Cl g 1 mu_X12_habitOf [rf g o, .int x1] (Z, I5, L6) (some (.int v8)) (Z, I5, L6) ∧ (∃ (v10 : Int32), Cl g 1 mu_X12_poseOf [rf g o, .int x1] (Z, I5, L6) (some (.int v10)) (Z, I5, L6) ∧ (∃ (v12 : Int32) (I13 : Nat → Nat → Int32) (L14 : Nat → Nat → Int64), Cl g 5 mu_X12_made [rf g o, .int v8, .int v10, .int x2] (Z, I5, L6) (some (.int v12)) (Z, I13, L14) ∧ (vp_in (35 + (2 * x1)) (Z.2.2.1 o_a) ∧ (∀ I17 : Nat → Nat → Int32, I17 = rw1 I13 o_a (upd (I13 o_a) (35 + (2 * x1)).toNatClampNeg (v12 - v12 / 200 * 200)) → (r = some (.int v12) ∧ M' = (Z, I17, L14))))))))) ∧ (v3 = 0 → (r = some (.int ((-1))) ∧ M' = (Z, I, L))))))))) : Cl g 6 mu_X12_tap [rf g o, .int x1, .int x2] (Z, I, L) r M' := by
  refine cl_of (lv := [(0, rf g o), (1, .int x1), (2, .int x2)]) (by decide) (Nat.le_of_ble_eq_true rfl) rfl ?_
  refine fr_aload_n (i := 0) (q := 0) rfl dX12_tap_0 rfl ?_
  refine fr_iload_n (i := 1) (q := 1) rfl dX12_tap_1 rfl ?_
  obtain ⟨v1, hc2, h⟩ := h
  refine fr_callV2 (ν := mu_X12_isPair) (st2 := [.int v1]) (As := [.int x1]) (st := []) (v := (some (.int v1))) (M1 := (Z, I, L)) dX12_tap_2 rfl ml_X12_301 mo_X12_isPair mi_X12_isPair (ci := 12) rfl rfl k_o (Nat.le_of_ble_eq_true rfl) rfl rfl (Nat.le_of_ble_eq_true rfl) hc2 rfl ?_
  refine fr_if_eq (tgt := 17) dX12_tap_5 (by decide) rfl (fun hc => ?_) (fun hc => ?_)
  · have h := h.1 hc
    refine fr_iconst (v := (-1)) (by decide) dX12_tap_17 rfl ?_
    exact fr_iret rfl dX12_tap_18 h.1 h.2
  · have h := h.2 hc
    refine fr_iload_n (i := 2) (q := 2) rfl dX12_tap_8 rfl ?_
    refine fr_iconst (v := 0) (by decide) dX12_tap_9 rfl ?_
    refine fr_iconst (v := 3) (by decide) dX12_tap_10 rfl ?_
    obtain ⟨v3, hc4, h⟩ := h
    refine fr_callS2 (ν := mu_X12_isIn) (st2 := [.int v3]) (As := [.int x2, .int 0, .int 3]) (st := []) (v := (some (.int v3))) (M1 := (Z, I, L)) dX12_tap_11 rfl ml_X12_95 mo_X12_isIn ms_X12_isIn (Nat.le_of_ble_eq_true rfl) rfl rfl (Nat.le_of_ble_eq_true rfl) hc4 rfl ?_
    refine fr_if_ne (tgt := 19) dX12_tap_14 (by decide) rfl (fun hc => ?_) (fun hc => ?_)
    · have h := h.1 hc
      refine fr_aload_n (i := 0) (q := 0) rfl dX12_tap_19 rfl ?_
      refine fr_iload_n (i := 1) (q := 1) rfl dX12_tap_20 rfl ?_
      obtain ⟨I5, L6, hc7, h⟩ := h
      refine fr_callV2 (ν := mu_X12_keep) (st2 := []) (As := [.int x1]) (st := []) (v := none) (M1 := (Z, I5, L6)) dX12_tap_21 rfl ml_X12_304 mo_X12_keep mi_X12_keep (ci := 12) rfl rfl k_o (Nat.le_of_ble_eq_true rfl) rfl rfl (Nat.le_of_ble_eq_true rfl) hc7 rfl ?_
      refine fr_aload_n (i := 0) (q := 0) rfl dX12_tap_24 rfl ?_
      refine fr_aload_n (i := 0) (q := 0) rfl dX12_tap_25 rfl ?_
      refine fr_iload_n (i := 1) (q := 1) rfl dX12_tap_26 rfl ?_
      obtain ⟨v8, hc9, h⟩ := h
      refine fr_callV2 (ν := mu_X12_habitOf) (st2 := [.int v8, rf g o]) (As := [.int x1]) (st := [rf g o]) (v := (some (.int v8))) (M1 := (Z, I5, L6)) dX12_tap_27 rfl ml_X12_307 mo_X12_habitOf mi_X12_habitOf (ci := 12) rfl rfl k_o (Nat.le_of_ble_eq_true rfl) rfl rfl (Nat.le_of_ble_eq_true rfl) hc9 rfl ?_
      refine fr_aload_n (i := 0) (q := 0) rfl dX12_tap_30 rfl ?_
      refine fr_iload_n (i := 1) (q := 1) rfl dX12_tap_31 rfl ?_
      obtain ⟨v10, hc11, h⟩ := h
      refine fr_callV2 (ν := mu_X12_poseOf) (st2 := [.int v10, .int v8, rf g o]) (As := [.int x1]) (st := [.int v8, rf g o]) (v := (some (.int v10))) (M1 := (Z, I5, L6)) dX12_tap_32 rfl ml_X12_106 mo_X12_poseOf mi_X12_poseOf (ci := 12) rfl rfl k_o (Nat.le_of_ble_eq_true rfl) rfl rfl (Nat.le_of_ble_eq_true rfl) hc11 rfl ?_
      refine fr_iload_n (i := 2) (q := 2) rfl dX12_tap_35 rfl ?_
      obtain ⟨v12, I13, L14, hc15, h⟩ := h
      refine fr_callV2 (ν := mu_X12_made) (st2 := [.int v12]) (As := [.int v8, .int v10, .int x2]) (st := []) (v := (some (.int v12))) (M1 := (Z, I13, L14)) dX12_tap_36 rfl ml_X12_294 mo_X12_made mi_X12_made (ci := 12) rfl rfl k_o (Nat.le_of_ble_eq_true rfl) rfl rfl (Nat.le_of_ble_eq_true rfl) hc15 rfl ?_
      refine fr_istore_n (i := 3) (lv' := [(3, .int v12), (0, rf g o), (1, .int x1), (2, .int x2)]) dX12_tap_39 rfl (by decide) rfl ?_
      refine fr_aload_n (i := 0) (q := 1) rfl dX12_tap_40 rfl ?_
      refine fr_getR dX12_tap_41 rfl fl_X12_7 k_o r_o_a ?_
      refine fr_bipush (v := 35) (by decide) dX12_tap_44 rfl ?_
      refine fr_iconst (v := 2) (by decide) dX12_tap_46 rfl ?_
      refine fr_iload_n (i := 1) (q := 2) rfl dX12_tap_47 rfl ?_
      refine fr_imul dX12_tap_48 rfl ?_
      refine fr_iadd dX12_tap_49 rfl ?_
      refine fr_iload_n (i := 3) (q := 0) rfl dX12_tap_50 rfl ?_
      refine fr_sipush (v := 200) (by decide) dX12_tap_51 rfl ?_
      refine fr_irem (by decide) dX12_tap_54 rfl ?_
      obtain ⟨hz16, h⟩ := h
      refine fr_iast dX12_tap_55 rfl k_o_a hz16 ?_
      refine fr_memI (fun I17 hI17 => ?_)
      have h := h I17 hI17
      refine fr_iload_n (i := 3) (q := 0) rfl dX12_tap_56 rfl ?_
      exact fr_iret rfl dX12_tap_57 h.1 h.2
    · have h := h.2 hc
      refine fr_iconst (v := (-1)) (by decide) dX12_tap_17 rfl ?_
      exact fr_iret rfl dX12_tap_18 h.1 h.2
theorem cp_X12_row {g : GE} {Z : Zs} {I : Nat → Nat → Int32} {L : Nat → Nat → Int64} {r : Option Value} {M' : Mem} {o : Nat} {x1 : Int32} {o_a : Nat} (k_o : KM Z o 12) (r_o_a : Z.2.1 o 0 = some o_a) (k_o_a : KM Z o_a 13) (h : ((¬ x1 = ((-1)) → (∃ (v1 : Int32), Cl g 1 mu_X12_isIn [.int x1, .int 0, .int 3] (Z, I, L) (some (.int v1)) (Z, I, L) ∧ ((v1 = 0 → (r = some (.int ((-1))) ∧ M' = (Z, I, L))) ∧ (¬ v1 = 0 → (vp_in 2 (Z.2.2.1 o_a) ∧ ((¬ (I o_a (2 : Int32).toNatClampNeg) = 16 → (vp_in 2 (Z.2.2.1 o_a) ∧ (vp_in (50 + (I o_a (2 : Int32).toNatClampNeg)) (Z.2.2.1 o_a) ∧ (∀ I6 : Nat → Nat → Int32, I6 = rw1 I o_a (upd (I o_a) (50 + (I o_a (2 : Int32).toNatClampNeg)).toNatClampNeg x1) → (vp_in 2 (Z.2.2.1 o_a) ∧ (vp_in 2 (Z.2.2.1 o_a) ∧ (∀ I9 : Nat → Nat → Int32, I9 = rw1 I6 o_a (upd (I6 o_a) (2 : Int32).toNatClampNeg ((I6 o_a (2 : Int32).toNatClampNeg) + 1)) → (vp_in 2 (Z.2.2.1 o_a) ∧ (r = some (.int (I9 o_a (2 : Int32).toNatClampNeg)) ∧ M' = (Z, I9, L)))))))))) ∧ ((I o_a (2 : Int32).toNatClampNeg) = 16 → (r = some (.int ((-1))) ∧ M' = (Z, I, L))))))))) ∧ (x1 = ((-1)) → (vp_in 2 (Z.2.2.1 o_a) ∧ (∀ I12 : Nat → Nat → Int32, I12 = rw1 I o_a (upd (I o_a) (2 : Int32).toNatClampNeg 0) → (r = some (.int 0) ∧ M' = (Z, I12, L))))))) : Cl g 2 mu_X12_row [rf g o, .int x1] (Z, I, L) r M' := by
  refine cl_of (lv := [(0, rf g o), (1, .int x1)]) (by decide) (Nat.le_of_ble_eq_true rfl) rfl ?_
  refine fr_iload_n (i := 1) (q := 1) rfl dX12_row_0 rfl ?_
  refine fr_iconst (v := (-1)) (by decide) dX12_row_1 rfl ?_
  refine fr_icmp_ne (tgt := 14) dX12_row_2 (by decide) rfl (fun hc => ?_) (fun hc => ?_)
  · have h := h.1 hc
    refine fr_iload_n (i := 1) (q := 1) rfl dX12_row_14 rfl ?_
    refine fr_iconst (v := 0) (by decide) dX12_row_15 rfl ?_
    refine fr_iconst (v := 3) (by decide) dX12_row_16 rfl ?_
    obtain ⟨v1, hc2, h⟩ := h
    refine fr_callS2 (ν := mu_X12_isIn) (st2 := [.int v1]) (As := [.int x1, .int 0, .int 3]) (st := []) (v := (some (.int v1))) (M1 := (Z, I, L)) dX12_row_17 rfl ml_X12_95 mo_X12_isIn ms_X12_isIn (Nat.le_of_ble_eq_true rfl) rfl rfl (Nat.le_of_ble_eq_true rfl) hc2 rfl ?_
    refine fr_if_eq (tgt := 34) dX12_row_20 (by decide) rfl (fun hc => ?_) (fun hc => ?_)
    · have h := h.1 hc
      refine fr_iconst (v := (-1)) (by decide) dX12_row_34 rfl ?_
      exact fr_iret rfl dX12_row_35 h.1 h.2
    · have h := h.2 hc
      refine fr_aload_n (i := 0) (q := 0) rfl dX12_row_23 rfl ?_
      refine fr_getR dX12_row_24 rfl fl_X12_7 k_o r_o_a ?_
      refine fr_iconst (v := 2) (by decide) dX12_row_27 rfl ?_
      obtain ⟨hz3, h⟩ := h
      refine fr_iald dX12_row_28 rfl k_o_a hz3 ?_
      refine fr_bipush (v := 16) (by decide) dX12_row_29 rfl ?_
      refine fr_icmp_ne (tgt := 36) dX12_row_31 (by decide) rfl (fun hc => ?_) (fun hc => ?_)
      · have h := h.1 hc
        refine fr_aload_n (i := 0) (q := 0) rfl dX12_row_36 rfl ?_
        refine fr_getR dX12_row_37 rfl fl_X12_7 k_o r_o_a ?_
        refine fr_bipush (v := 50) (by decide) dX12_row_40 rfl ?_
        refine fr_aload_n (i := 0) (q := 0) rfl dX12_row_42 rfl ?_
        refine fr_getR dX12_row_43 rfl fl_X12_7 k_o r_o_a ?_
        refine fr_iconst (v := 2) (by decide) dX12_row_46 rfl ?_
        obtain ⟨hz4, h⟩ := h
        refine fr_iald dX12_row_47 rfl k_o_a hz4 ?_
        refine fr_iadd dX12_row_48 rfl ?_
        refine fr_iload_n (i := 1) (q := 1) rfl dX12_row_49 rfl ?_
        obtain ⟨hz5, h⟩ := h
        refine fr_iast dX12_row_50 rfl k_o_a hz5 ?_
        refine fr_memI (fun I6 hI6 => ?_)
        have h := h I6 hI6
        refine fr_aload_n (i := 0) (q := 0) rfl dX12_row_51 rfl ?_
        refine fr_getR dX12_row_52 rfl fl_X12_7 k_o r_o_a ?_
        refine fr_iconst (v := 2) (by decide) dX12_row_55 rfl ?_
        refine fr_dup2 rfl rfl dX12_row_56 rfl ?_
        obtain ⟨hz7, h⟩ := h
        refine fr_iald dX12_row_57 rfl k_o_a hz7 ?_
        refine fr_iconst (v := 1) (by decide) dX12_row_58 rfl ?_
        refine fr_iadd dX12_row_59 rfl ?_
        obtain ⟨hz8, h⟩ := h
        refine fr_iast dX12_row_60 rfl k_o_a hz8 ?_
        refine fr_memI (fun I9 hI9 => ?_)
        have h := h I9 hI9
        refine fr_aload_n (i := 0) (q := 0) rfl dX12_row_61 rfl ?_
        refine fr_getR dX12_row_62 rfl fl_X12_7 k_o r_o_a ?_
        refine fr_iconst (v := 2) (by decide) dX12_row_65 rfl ?_
        obtain ⟨hz10, h⟩ := h
        refine fr_iald dX12_row_66 rfl k_o_a hz10 ?_
        exact fr_iret rfl dX12_row_67 h.1 h.2
      · have h := h.2 hc
        refine fr_iconst (v := (-1)) (by decide) dX12_row_34 rfl ?_
        exact fr_iret rfl dX12_row_35 h.1 h.2
  · have h := h.2 hc
    refine fr_aload_n (i := 0) (q := 0) rfl dX12_row_5 rfl ?_
    refine fr_getR dX12_row_6 rfl fl_X12_7 k_o r_o_a ?_
    refine fr_iconst (v := 2) (by decide) dX12_row_9 rfl ?_
    refine fr_iconst (v := 0) (by decide) dX12_row_10 rfl ?_
    obtain ⟨hz11, h⟩ := h
    refine fr_iast dX12_row_11 rfl k_o_a hz11 ?_
    refine fr_memI (fun I12 hI12 => ?_)
    have h := h I12 hI12
    refine fr_iconst (v := 0) (by decide) dX12_row_12 rfl ?_
    exact fr_iret rfl dX12_row_13 h.1 h.2
abbrev Lp_X12_walk_19 (g : GE) (d : Nat) (o : Nat) (u1 : Int32) (u2 : Int32) (u3 : Int32) (M : Mem) (r : Option Value) (M' : Mem) : Prop := Fr g d mu_X12_walk 19 [(0, rf g o), (1, .int u1), (2, .int u2), (3, .int u3)] [] M r M'
theorem cp_X12_walk {g : GE} {Z : Zs} {I : Nat → Nat → Int32} {L : Nat → Nat → Int64} {r : Option Value} {M' : Mem} {o : Nat} {x1 : Int32} (k_o : KM Z o 12) (h : (∃ (v1 : Int32), Cl g 2 mu_X12_isPair [rf g o, .int x1] (Z, I, L) (some (.int v1)) (Z, I, L) ∧ ((¬ v1 = 0 → (∃ (I3 : Nat → Nat → Int32) (L4 : Nat → Nat → Int64), Cl g 2 mu_X12_keep [rf g o, .int x1] (Z, I, L) none (Z, I3, L4) ∧ Lp_X12_walk_19 g 6 o x1 0 0 (Z, I3, L4) r M')) ∧ (v1 = 0 → (r = some (.int ((-1))) ∧ M' = (Z, I, L)))))) : Cl g 6 mu_X12_walk [rf g o, .int x1] (Z, I, L) r M' := by
  refine cl_of (lv := [(0, rf g o), (1, .int x1)]) (by decide) (Nat.le_of_ble_eq_true rfl) rfl ?_
  refine fr_aload_n (i := 0) (q := 0) rfl dX12_walk_0 rfl ?_
  refine fr_iload_n (i := 1) (q := 1) rfl dX12_walk_1 rfl ?_
  obtain ⟨v1, hc2, h⟩ := h
  refine fr_callV2 (ν := mu_X12_isPair) (st2 := [.int v1]) (As := [.int x1]) (st := []) (v := (some (.int v1))) (M1 := (Z, I, L)) dX12_walk_2 rfl ml_X12_301 mo_X12_isPair mi_X12_isPair (ci := 12) rfl rfl k_o (Nat.le_of_ble_eq_true rfl) rfl rfl (Nat.le_of_ble_eq_true rfl) hc2 rfl ?_
  refine fr_if_ne (tgt := 10) dX12_walk_5 (by decide) rfl (fun hc => ?_) (fun hc => ?_)
  · have h := h.1 hc
    refine fr_aload_n (i := 0) (q := 0) rfl dX12_walk_10 rfl ?_
    refine fr_iload_n (i := 1) (q := 1) rfl dX12_walk_11 rfl ?_
    obtain ⟨I3, L4, hc5, h⟩ := h
    refine fr_callV2 (ν := mu_X12_keep) (st2 := []) (As := [.int x1]) (st := []) (v := none) (M1 := (Z, I3, L4)) dX12_walk_12 rfl ml_X12_304 mo_X12_keep mi_X12_keep (ci := 12) rfl rfl k_o (Nat.le_of_ble_eq_true rfl) rfl rfl (Nat.le_of_ble_eq_true rfl) hc5 rfl ?_
    refine fr_iconst (v := 0) (by decide) dX12_walk_15 rfl ?_
    refine fr_istore_n (i := 2) (lv' := [(2, .int 0), (0, rf g o), (1, .int x1)]) dX12_walk_16 rfl (by decide) rfl ?_
    refine fr_iconst (v := 0) (by decide) dX12_walk_17 rfl ?_
    refine fr_istore_n (i := 3) (lv' := [(3, .int 0), (2, .int 0), (0, rf g o), (1, .int x1)]) dX12_walk_18 rfl (by decide) rfl ?_
    exact fr_sub [2, 3, 1, 0] rfl h
  · have h := h.2 hc
    refine fr_iconst (v := (-1)) (by decide) dX12_walk_8 rfl ?_
    exact fr_iret rfl dX12_walk_9 h.1 h.2
theorem wp_X12_walk_19 {g : GE} {Z : Zs} {I : Nat → Nat → Int32} {L : Nat → Nat → Int64} {r : Option Value} {M' : Mem} {o : Nat} {u1 : Int32} {u2 : Int32} {u3 : Int32} {o_a : Nat} (k_o : KM Z o 12) (r_o_a : Z.2.1 o 0 = some o_a) (k_o_a : KM Z o_a 13) (h : (vp_in 2 (Z.2.2.1 o_a) ∧ (((I o_a (2 : Int32).toNatClampNeg) ≤ u3 → (r = some (.int u2) ∧ M' = (Z, I, L))) ∧ (¬ (I o_a (2 : Int32).toNatClampNeg) ≤ u3 → (∃ (v2 : Int32), Cl g 1 mu_X12_habitOf [rf g o, .int u1] (Z, I, L) (some (.int v2)) (Z, I, L) ∧ (∃ (v4 : Int32), Cl g 1 mu_X12_poseOf [rf g o, .int u1] (Z, I, L) (some (.int v4)) (Z, I, L) ∧ (vp_in (50 + u3) (Z.2.2.1 o_a) ∧ (∃ (v7 : Int32) (I8 : Nat → Nat → Int32) (L9 : Nat → Nat → Int64), Cl g 5 mu_X12_made [rf g o, .int v2, .int v4, .int (I o_a (50 + u3).toNatClampNeg)] (Z, I, L) (some (.int v7)) (Z, I8, L9) ∧ (∃ (v11 : Int32), Cl g 1 mu_X12_isIn [.int v7, .int 200, .int 399] (Z, I8, L9) (some (.int v11)) (Z, I8, L9) ∧ ((v11 = 0 → (∀ y13 : Int32, y13 = (u2 + 0) → (vp_in (35 + (2 * u1)) (Z.2.2.1 o_a) ∧ (∀ I15 : Nat → Nat → Int32, I15 = rw1 I8 o_a (upd (I8 o_a) (35 + (2 * u1)).toNatClampNeg (v7 - v7 / 200 * 200)) → (∀ y16 : Int32, y16 = (u3 + 1) → Lp_X12_walk_19 g 6 o u1 y13 y16 (Z, I15, L9) r M'))))) ∧ (¬ v11 = 0 → (∀ y17 : Int32, y17 = (u2 + 1) → (vp_in (35 + (2 * u1)) (Z.2.2.1 o_a) ∧ (∀ I19 : Nat → Nat → Int32, I19 = rw1 I8 o_a (upd (I8 o_a) (35 + (2 * u1)).toNatClampNeg (v7 - v7 / 200 * 200)) → (∀ y20 : Int32, y20 = (u3 + 1) → Lp_X12_walk_19 g 6 o u1 y17 y20 (Z, I19, L9) r M'))))))))))))))) : Lp_X12_walk_19 g 6 o u1 u2 u3 (Z, I, L) r M' := by
  refine fr_iload_n (i := 3) (q := 3) rfl dX12_walk_19 rfl ?_
  refine fr_aload_n (i := 0) (q := 0) rfl dX12_walk_20 rfl ?_
  refine fr_getR dX12_walk_21 rfl fl_X12_7 k_o r_o_a ?_
  refine fr_iconst (v := 2) (by decide) dX12_walk_24 rfl ?_
  obtain ⟨hz1, h⟩ := h
  refine fr_iald dX12_walk_25 rfl k_o_a hz1 ?_
  refine fr_icmp_ge (tgt := 99) dX12_walk_26 (by decide) rfl (fun hc => ?_) (fun hc => ?_)
  · have h := h.1 hc
    refine fr_iload_n (i := 2) (q := 2) rfl dX12_walk_99 rfl ?_
    exact fr_iret rfl dX12_walk_100 h.1 h.2
  · have h := h.2 hc
    refine fr_aload_n (i := 0) (q := 0) rfl dX12_walk_29 rfl ?_
    refine fr_aload_n (i := 0) (q := 0) rfl dX12_walk_30 rfl ?_
    refine fr_iload_n (i := 1) (q := 1) rfl dX12_walk_31 rfl ?_
    obtain ⟨v2, hc3, h⟩ := h
    refine fr_callV2 (ν := mu_X12_habitOf) (st2 := [.int v2, rf g o]) (As := [.int u1]) (st := [rf g o]) (v := (some (.int v2))) (M1 := (Z, I, L)) dX12_walk_32 rfl ml_X12_307 mo_X12_habitOf mi_X12_habitOf (ci := 12) rfl rfl k_o (Nat.le_of_ble_eq_true rfl) rfl rfl (Nat.le_of_ble_eq_true rfl) hc3 rfl ?_
    refine fr_aload_n (i := 0) (q := 0) rfl dX12_walk_35 rfl ?_
    refine fr_iload_n (i := 1) (q := 1) rfl dX12_walk_36 rfl ?_
    obtain ⟨v4, hc5, h⟩ := h
    refine fr_callV2 (ν := mu_X12_poseOf) (st2 := [.int v4, .int v2, rf g o]) (As := [.int u1]) (st := [.int v2, rf g o]) (v := (some (.int v4))) (M1 := (Z, I, L)) dX12_walk_37 rfl ml_X12_106 mo_X12_poseOf mi_X12_poseOf (ci := 12) rfl rfl k_o (Nat.le_of_ble_eq_true rfl) rfl rfl (Nat.le_of_ble_eq_true rfl) hc5 rfl ?_
    refine fr_aload_n (i := 0) (q := 0) rfl dX12_walk_40 rfl ?_
    refine fr_getR dX12_walk_41 rfl fl_X12_7 k_o r_o_a ?_
    refine fr_bipush (v := 50) (by decide) dX12_walk_44 rfl ?_
    refine fr_iload_n (i := 3) (q := 3) rfl dX12_walk_46 rfl ?_
    refine fr_iadd dX12_walk_47 rfl ?_
    obtain ⟨hz6, h⟩ := h
    refine fr_iald dX12_walk_48 rfl k_o_a hz6 ?_
    obtain ⟨v7, I8, L9, hc10, h⟩ := h
    refine fr_callV2 (ν := mu_X12_made) (st2 := [.int v7]) (As := [.int v2, .int v4, .int (I o_a (50 + u3).toNatClampNeg)]) (st := []) (v := (some (.int v7))) (M1 := (Z, I8, L9)) dX12_walk_49 rfl ml_X12_294 mo_X12_made mi_X12_made (ci := 12) rfl rfl k_o (Nat.le_of_ble_eq_true rfl) rfl rfl (Nat.le_of_ble_eq_true rfl) hc10 rfl ?_
    refine fr_istore (lv' := [(4, .int v7), (0, rf g o), (1, .int u1), (2, .int u2), (3, .int u3)]) dX12_walk_52 rfl (by decide) rfl ?_
    refine fr_iload_n (i := 2) (q := 3) rfl dX12_walk_54 rfl ?_
    refine fr_iload (q := 0) rfl dX12_walk_55 rfl ?_
    refine fr_sipush (v := 200) (by decide) dX12_walk_57 rfl ?_
    refine fr_sipush (v := 399) (by decide) dX12_walk_60 rfl ?_
    obtain ⟨v11, hc12, h⟩ := h
    refine fr_callS2 (ν := mu_X12_isIn) (st2 := [.int v11, .int u2]) (As := [.int v7, .int 200, .int 399]) (st := [.int u2]) (v := (some (.int v11))) (M1 := (Z, I8, L9)) dX12_walk_63 rfl ml_X12_95 mo_X12_isIn ms_X12_isIn (Nat.le_of_ble_eq_true rfl) rfl rfl (Nat.le_of_ble_eq_true rfl) hc12 rfl ?_
    refine fr_if_eq (tgt := 73) dX12_walk_66 (by decide) rfl (fun hc => ?_) (fun hc => ?_)
    · have h := h.1 hc
      refine fr_iconst (v := 0) (by decide) dX12_walk_73 rfl ?_
      refine fr_iadd dX12_walk_74 rfl ?_
      refine fr_topi (fun y13 hy13 => ?_)
      have h := h y13 hy13
      refine fr_istore_n (i := 2) (lv' := [(2, .int y13), (4, .int v7), (0, rf g o), (1, .int u1), (3, .int u3)]) dX12_walk_75 rfl (by decide) rfl ?_
      refine fr_aload_n (i := 0) (q := 2) rfl dX12_walk_76 rfl ?_
      refine fr_getR dX12_walk_77 rfl fl_X12_7 k_o r_o_a ?_
      refine fr_bipush (v := 35) (by decide) dX12_walk_80 rfl ?_
      refine fr_iconst (v := 2) (by decide) dX12_walk_82 rfl ?_
      refine fr_iload_n (i := 1) (q := 3) rfl dX12_walk_83 rfl ?_
      refine fr_imul dX12_walk_84 rfl ?_
      refine fr_iadd dX12_walk_85 rfl ?_
      refine fr_iload (q := 1) rfl dX12_walk_86 rfl ?_
      refine fr_sipush (v := 200) (by decide) dX12_walk_88 rfl ?_
      refine fr_irem (by decide) dX12_walk_91 rfl ?_
      obtain ⟨hz14, h⟩ := h
      refine fr_iast dX12_walk_92 rfl k_o_a hz14 ?_
      refine fr_memI (fun I15 hI15 => ?_)
      have h := h I15 hI15
      obtain ⟨y16, hy16⟩ : ∃ y : Int32, y = u3 + 1 := ⟨_, rfl⟩
      have h := h y16 hy16
      refine fr_iinc (q := 4) (v := y16) (lv' := [(3, .int y16), (2, .int y13), (4, .int v7), (0, rf g o), (1, .int u1)]) rfl (by rw [hy16]; rfl) dX12_walk_93 rfl (by decide) rfl ?_
      refine fr_goto (n := 19) dX12_walk_96 (by decide) ?_
      exact fr_sub [3, 4, 1, 0] rfl h
    · have h := h.2 hc
      refine fr_iconst (v := 1) (by decide) dX12_walk_69 rfl ?_
      refine fr_goto (n := 74) dX12_walk_70 (by decide) ?_
      refine fr_iadd dX12_walk_74 rfl ?_
      refine fr_topi (fun y17 hy17 => ?_)
      have h := h y17 hy17
      refine fr_istore_n (i := 2) (lv' := [(2, .int y17), (4, .int v7), (0, rf g o), (1, .int u1), (3, .int u3)]) dX12_walk_75 rfl (by decide) rfl ?_
      refine fr_aload_n (i := 0) (q := 2) rfl dX12_walk_76 rfl ?_
      refine fr_getR dX12_walk_77 rfl fl_X12_7 k_o r_o_a ?_
      refine fr_bipush (v := 35) (by decide) dX12_walk_80 rfl ?_
      refine fr_iconst (v := 2) (by decide) dX12_walk_82 rfl ?_
      refine fr_iload_n (i := 1) (q := 3) rfl dX12_walk_83 rfl ?_
      refine fr_imul dX12_walk_84 rfl ?_
      refine fr_iadd dX12_walk_85 rfl ?_
      refine fr_iload (q := 1) rfl dX12_walk_86 rfl ?_
      refine fr_sipush (v := 200) (by decide) dX12_walk_88 rfl ?_
      refine fr_irem (by decide) dX12_walk_91 rfl ?_
      obtain ⟨hz18, h⟩ := h
      refine fr_iast dX12_walk_92 rfl k_o_a hz18 ?_
      refine fr_memI (fun I19 hI19 => ?_)
      have h := h I19 hI19
      obtain ⟨y20, hy20⟩ : ∃ y : Int32, y = u3 + 1 := ⟨_, rfl⟩
      have h := h y20 hy20
      refine fr_iinc (q := 4) (v := y20) (lv' := [(3, .int y20), (2, .int y17), (4, .int v7), (0, rf g o), (1, .int u1)]) rfl (by rw [hy20]; rfl) dX12_walk_93 rfl (by decide) rfl ?_
      refine fr_goto (n := 19) dX12_walk_96 (by decide) ?_
      exact fr_sub [3, 4, 1, 0] rfl h
theorem cp_X12_undo {g : GE} {Z : Zs} {I : Nat → Nat → Int32} {L : Nat → Nat → Int64} {r : Option Value} {M' : Mem} {o : Nat} {o_a : Nat} (k_o : KM Z o 12) (r_o_a : Z.2.1 o 0 = some o_a) (k_o_a : KM Z o_a 13) (h : (vp_in 3 (Z.2.2.1 o_a) ∧ ((¬ (I o_a (3 : Int32).toNatClampNeg) = 0 → (vp_in 3 (Z.2.2.1 o_a) ∧ (vp_in 3 (Z.2.2.1 o_a) ∧ (∀ I4 : Nat → Nat → Int32, I4 = rw1 I o_a (upd (I o_a) (3 : Int32).toNatClampNeg ((I o_a (3 : Int32).toNatClampNeg) - 1)) → (vp_in 3 (Z.2.2.1 o_a) ∧ (vp_in (70 + (2 * (I4 o_a (3 : Int32).toNatClampNeg))) (Z.2.2.1 o_a) ∧ (∀ y7 : Int32, y7 = (I4 o_a (70 + (2 * (I4 o_a (3 : Int32).toNatClampNeg))).toNatClampNeg) → (vp_in 3 (Z.2.2.1 o_a) ∧ (vp_in ((70 + (2 * (I4 o_a (3 : Int32).toNatClampNeg))) + 1) (Z.2.2.1 o_a) ∧ (vp_in (35 + (2 * y7)) (Z.2.2.1 o_a) ∧ (∀ I11 : Nat → Nat → Int32, I11 = rw1 I4 o_a (upd (I4 o_a) (35 + (2 * y7)).toNatClampNeg (I4 o_a ((70 + (2 * (I4 o_a (3 : Int32).toNatClampNeg))) + 1).toNatClampNeg)) → (r = some (.int y7) ∧ M' = (Z, I11, L))))))))))))) ∧ ((I o_a (3 : Int32).toNatClampNeg) = 0 → (r = some (.int ((-1))) ∧ M' = (Z, I, L)))))) : Cl g 1 mu_X12_undo [rf g o] (Z, I, L) r M' := by
  refine cl_of (lv := [(0, rf g o)]) (by decide) (Nat.le_of_ble_eq_true rfl) rfl ?_
  refine fr_aload_n (i := 0) (q := 0) rfl dX12_undo_0 rfl ?_
  refine fr_getR dX12_undo_1 rfl fl_X12_7 k_o r_o_a ?_
  refine fr_iconst (v := 3) (by decide) dX12_undo_4 rfl ?_
  obtain ⟨hz1, h⟩ := h
  refine fr_iald dX12_undo_5 rfl k_o_a hz1 ?_
  refine fr_if_ne (tgt := 11) dX12_undo_6 (by decide) rfl (fun hc => ?_) (fun hc => ?_)
  · have h := h.1 hc
    refine fr_aload_n (i := 0) (q := 0) rfl dX12_undo_11 rfl ?_
    refine fr_getR dX12_undo_12 rfl fl_X12_7 k_o r_o_a ?_
    refine fr_iconst (v := 3) (by decide) dX12_undo_15 rfl ?_
    refine fr_dup2 rfl rfl dX12_undo_16 rfl ?_
    obtain ⟨hz2, h⟩ := h
    refine fr_iald dX12_undo_17 rfl k_o_a hz2 ?_
    refine fr_iconst (v := 1) (by decide) dX12_undo_18 rfl ?_
    refine fr_isub dX12_undo_19 rfl ?_
    obtain ⟨hz3, h⟩ := h
    refine fr_iast dX12_undo_20 rfl k_o_a hz3 ?_
    refine fr_memI (fun I4 hI4 => ?_)
    have h := h I4 hI4
    refine fr_aload_n (i := 0) (q := 0) rfl dX12_undo_21 rfl ?_
    refine fr_getR dX12_undo_22 rfl fl_X12_7 k_o r_o_a ?_
    refine fr_bipush (v := 70) (by decide) dX12_undo_25 rfl ?_
    refine fr_iconst (v := 2) (by decide) dX12_undo_27 rfl ?_
    refine fr_aload_n (i := 0) (q := 0) rfl dX12_undo_28 rfl ?_
    refine fr_getR dX12_undo_29 rfl fl_X12_7 k_o r_o_a ?_
    refine fr_iconst (v := 3) (by decide) dX12_undo_32 rfl ?_
    obtain ⟨hz5, h⟩ := h
    refine fr_iald dX12_undo_33 rfl k_o_a hz5 ?_
    refine fr_imul dX12_undo_34 rfl ?_
    refine fr_iadd dX12_undo_35 rfl ?_
    obtain ⟨hz6, h⟩ := h
    refine fr_iald dX12_undo_36 rfl k_o_a hz6 ?_
    refine fr_topi (fun y7 hy7 => ?_)
    have h := h y7 hy7
    refine fr_istore_n (i := 1) (lv' := [(1, .int y7), (0, rf g o)]) dX12_undo_37 rfl (by decide) rfl ?_
    refine fr_aload_n (i := 0) (q := 1) rfl dX12_undo_38 rfl ?_
    refine fr_getR dX12_undo_39 rfl fl_X12_7 k_o r_o_a ?_
    refine fr_bipush (v := 35) (by decide) dX12_undo_42 rfl ?_
    refine fr_iconst (v := 2) (by decide) dX12_undo_44 rfl ?_
    refine fr_iload_n (i := 1) (q := 0) rfl dX12_undo_45 rfl ?_
    refine fr_imul dX12_undo_46 rfl ?_
    refine fr_iadd dX12_undo_47 rfl ?_
    refine fr_aload_n (i := 0) (q := 1) rfl dX12_undo_48 rfl ?_
    refine fr_getR dX12_undo_49 rfl fl_X12_7 k_o r_o_a ?_
    refine fr_bipush (v := 70) (by decide) dX12_undo_52 rfl ?_
    refine fr_iconst (v := 2) (by decide) dX12_undo_54 rfl ?_
    refine fr_aload_n (i := 0) (q := 1) rfl dX12_undo_55 rfl ?_
    refine fr_getR dX12_undo_56 rfl fl_X12_7 k_o r_o_a ?_
    refine fr_iconst (v := 3) (by decide) dX12_undo_59 rfl ?_
    obtain ⟨hz8, h⟩ := h
    refine fr_iald dX12_undo_60 rfl k_o_a hz8 ?_
    refine fr_imul dX12_undo_61 rfl ?_
    refine fr_iadd dX12_undo_62 rfl ?_
    refine fr_iconst (v := 1) (by decide) dX12_undo_63 rfl ?_
    refine fr_iadd dX12_undo_64 rfl ?_
    obtain ⟨hz9, h⟩ := h
    refine fr_iald dX12_undo_65 rfl k_o_a hz9 ?_
    obtain ⟨hz10, h⟩ := h
    refine fr_iast dX12_undo_66 rfl k_o_a hz10 ?_
    refine fr_memI (fun I11 hI11 => ?_)
    have h := h I11 hI11
    refine fr_iload_n (i := 1) (q := 0) rfl dX12_undo_67 rfl ?_
    exact fr_iret rfl dX12_undo_68 h.1 h.2
  · have h := h.2 hc
    refine fr_iconst (v := (-1)) (by decide) dX12_undo_9 rfl ?_
    exact fr_iret rfl dX12_undo_10 h.1 h.2
theorem cp_X12_of {g : GE} {Z : Zs} {I : Nat → Nat → Int32} {L : Nat → Nat → Int64} {r : Option Value} {M' : Mem} {o : Nat} {x1 : Int32} {x2 : Int32} {o_a : Nat} (k_o : KM Z o 12) (r_o_a : Z.2.1 o 0 = some o_a) (k_o_a : KM Z o_a 13) (h : (∃ (v1 : Int32), Cl g 2 mu_X12_isPair [rf g o, .int x1] (Z, I, L) (some (.int v1)) (Z, I, L) ∧ ((v1 = 0 → (r = some (.int ((-1))) ∧ M' = (Z, I, L))) ∧ (¬ v1 = 0 → (∃ (v3 : Int32), Cl g 1 mu_X12_isIn [.int x2, .int 0, .int 1] (Z, I, L) (some (.int v3)) (Z, I, L) ∧ ((v3 = 0 → (r = some (.int ((-1))) ∧ M' = (Z, I, L))) ∧ (¬ v3 = 0 → (vp_in ((35 + (2 * x1)) + x2) (Z.2.2.1 o_a) ∧ (r = some (.int (I o_a ((35 + (2 * x1)) + x2).toNatClampNeg)) ∧ M' = (Z, I, L)))))))))) : Cl g 3 mu_X12_of [rf g o, .int x1, .int x2] (Z, I, L) r M' := by
  refine cl_of (lv := [(0, rf g o), (1, .int x1), (2, .int x2)]) (by decide) (Nat.le_of_ble_eq_true rfl) rfl ?_
  refine fr_aload_n (i := 0) (q := 0) rfl dX12_of_0 rfl ?_
  refine fr_iload_n (i := 1) (q := 1) rfl dX12_of_1 rfl ?_
  obtain ⟨v1, hc2, h⟩ := h
  refine fr_callV2 (ν := mu_X12_isPair) (st2 := [.int v1]) (As := [.int x1]) (st := []) (v := (some (.int v1))) (M1 := (Z, I, L)) dX12_of_2 rfl ml_X12_301 mo_X12_isPair mi_X12_isPair (ci := 12) rfl rfl k_o (Nat.le_of_ble_eq_true rfl) rfl rfl (Nat.le_of_ble_eq_true rfl) hc2 rfl ?_
  refine fr_if_eq (tgt := 33) dX12_of_5 (by decide) rfl (fun hc => ?_) (fun hc => ?_)
  · have h := h.1 hc
    refine fr_iconst (v := (-1)) (by decide) dX12_of_33 rfl ?_
    exact fr_iret rfl dX12_of_34 h.1 h.2
  · have h := h.2 hc
    refine fr_iload_n (i := 2) (q := 2) rfl dX12_of_8 rfl ?_
    refine fr_iconst (v := 0) (by decide) dX12_of_9 rfl ?_
    refine fr_iconst (v := 1) (by decide) dX12_of_10 rfl ?_
    obtain ⟨v3, hc4, h⟩ := h
    refine fr_callS2 (ν := mu_X12_isIn) (st2 := [.int v3]) (As := [.int x2, .int 0, .int 1]) (st := []) (v := (some (.int v3))) (M1 := (Z, I, L)) dX12_of_11 rfl ml_X12_95 mo_X12_isIn ms_X12_isIn (Nat.le_of_ble_eq_true rfl) rfl rfl (Nat.le_of_ble_eq_true rfl) hc4 rfl ?_
    refine fr_if_eq (tgt := 33) dX12_of_14 (by decide) rfl (fun hc => ?_) (fun hc => ?_)
    · have h := h.1 hc
      refine fr_iconst (v := (-1)) (by decide) dX12_of_33 rfl ?_
      exact fr_iret rfl dX12_of_34 h.1 h.2
    · have h := h.2 hc
      refine fr_aload_n (i := 0) (q := 0) rfl dX12_of_17 rfl ?_
      refine fr_getR dX12_of_18 rfl fl_X12_7 k_o r_o_a ?_
      refine fr_bipush (v := 35) (by decide) dX12_of_21 rfl ?_
      refine fr_iconst (v := 2) (by decide) dX12_of_23 rfl ?_
      refine fr_iload_n (i := 1) (q := 1) rfl dX12_of_24 rfl ?_
      refine fr_imul dX12_of_25 rfl ?_
      refine fr_iadd dX12_of_26 rfl ?_
      refine fr_iload_n (i := 2) (q := 2) rfl dX12_of_27 rfl ?_
      refine fr_iadd dX12_of_28 rfl ?_
      obtain ⟨hz5, h⟩ := h
      refine fr_iald dX12_of_29 rfl k_o_a hz5 ?_
      refine fr_goto (n := 34) dX12_of_30 (by decide) ?_
      exact fr_iret rfl dX12_of_34 h.1 h.2
