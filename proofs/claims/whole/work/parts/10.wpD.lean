theorem cp_X7_goTo {g : GE} {Z : Zs} {I : Nat → Nat → Int32} {L : Nat → Nat → Int64} {r : Option Value} {M' : Mem} {o : Nat} {x1 : Int32} {o_texts : Nat} (k_o : KM Z o 7) (r_o_texts : Z.2.1 o 1 = some o_texts) (k_o_texts : KM Z o_texts 2) (h : (∀ I1 : Nat → Nat → Int32, I1 = rw1 I o (upd (I o) 7 x1) → (∃ (I2 : Nat → Nat → Int32) (L3 : Nat → Nat → Int64), Cl g 2 mu_X2_cutTo [rf g o_texts, .int 0] (Z, I1, L) none (Z, I2, L3) ∧ (r = none ∧ M' = (Z, I2, L3))))) : Cl g 3 mu_X7_goTo [rf g o, .int x1] (Z, I, L) r M' := by
  refine cl_of (lv := [(0, rf g o), (1, .int x1)]) (by decide) (Nat.le_of_ble_eq_true rfl) rfl ?_
  refine fr_aload_n (i := 0) (q := 0) rfl dX7_goTo_0 rfl ?_
  refine fr_iload_n (i := 1) (q := 1) rfl dX7_goTo_1 rfl ?_
  refine fr_putI dX7_goTo_2 rfl fp_X7_37 k_o ?_
  refine fr_memI (fun I1 hI1 => ?_)
  have h := h I1 hI1
  refine fr_aload_n (i := 0) (q := 0) rfl dX7_goTo_5 rfl ?_
  refine fr_getR dX7_goTo_6 rfl fl_X7_16 k_o r_o_texts ?_
  refine fr_iconst (v := 0) (by decide) dX7_goTo_9 rfl ?_
  obtain ⟨I2, L3, hc4, h⟩ := h
  refine fr_callV2 (ν := mu_X2_cutTo) (st2 := []) (As := [.int 0]) (st := []) (v := none) (M1 := (Z, I2, L3)) dX7_goTo_10 rfl ml_X7_41 mo_X2_cutTo mi_X2_cutTo (ci := 2) rfl rfl k_o_texts (Nat.le_of_ble_eq_true rfl) rfl rfl (Nat.le_of_ble_eq_true rfl) hc4 rfl ?_
  exact fr_vret rfl dX7_goTo_13 h.1 h.2
theorem cp_X7_goApart {g : GE} {Z : Zs} {I : Nat → Nat → Int32} {L : Nat → Nat → Int64} {r : Option Value} {M' : Mem} {o : Nat} {o_texts : Nat} (k_o : KM Z o 7) (r_o_texts : Z.2.1 o 1 = some o_texts) (k_o_texts : KM Z o_texts 2) (h : (∀ I1 : Nat → Nat → Int32, I1 = rw1 I o (upd (I o) 7 ((-1))) → (∃ (I2 : Nat → Nat → Int32) (L3 : Nat → Nat → Int64), Cl g 2 mu_X2_cutTo [rf g o_texts, .int 0] (Z, I1, L) none (Z, I2, L3) ∧ (r = none ∧ M' = (Z, I2, L3))))) : Cl g 3 mu_X7_goApart [rf g o] (Z, I, L) r M' := by
  refine cl_of (lv := [(0, rf g o)]) (by decide) (Nat.le_of_ble_eq_true rfl) rfl ?_
  refine fr_aload_n (i := 0) (q := 0) rfl dX7_goApart_0 rfl ?_
  refine fr_iconst (v := (-1)) (by decide) dX7_goApart_1 rfl ?_
  refine fr_putI dX7_goApart_2 rfl fp_X7_37 k_o ?_
  refine fr_memI (fun I1 hI1 => ?_)
  have h := h I1 hI1
  refine fr_aload_n (i := 0) (q := 0) rfl dX7_goApart_5 rfl ?_
  refine fr_getR dX7_goApart_6 rfl fl_X7_16 k_o r_o_texts ?_
  refine fr_iconst (v := 0) (by decide) dX7_goApart_9 rfl ?_
  obtain ⟨I2, L3, hc4, h⟩ := h
  refine fr_callV2 (ν := mu_X2_cutTo) (st2 := []) (As := [.int 0]) (st := []) (v := none) (M1 := (Z, I2, L3)) dX7_goApart_10 rfl ml_X7_41 mo_X2_cutTo mi_X2_cutTo (ci := 2) rfl rfl k_o_texts (Nat.le_of_ble_eq_true rfl) rfl rfl (Nat.le_of_ble_eq_true rfl) hc4 rfl ?_
  exact fr_vret rfl dX7_goApart_13 h.1 h.2
theorem cp_X7_add {g : GE} {Z : Zs} {I : Nat → Nat → Int32} {L : Nat → Nat → Int64} {r : Option Value} {M' : Mem} {o : Nat} {x1 : Int32} {o_texts : Nat} (k_o : KM Z o 7) (r_o_texts : Z.2.1 o 1 = some o_texts) (k_o_texts : KM Z o_texts 2) (h : (∃ (I1 : Nat → Nat → Int32) (L2 : Nat → Nat → Int64), Cl g 1 mu_X2_add [rf g o_texts, .int x1] (Z, I, L) none (Z, I1, L2) ∧ (r = none ∧ M' = (Z, I1, L2)))) : Cl g 2 mu_X7_add [rf g o, .int x1] (Z, I, L) r M' := by
  refine cl_of (lv := [(0, rf g o), (1, .int x1)]) (by decide) (Nat.le_of_ble_eq_true rfl) rfl ?_
  refine fr_aload_n (i := 0) (q := 0) rfl dX7_add_0 rfl ?_
  refine fr_getR dX7_add_1 rfl fl_X7_16 k_o r_o_texts ?_
  refine fr_iload_n (i := 1) (q := 1) rfl dX7_add_4 rfl ?_
  obtain ⟨I1, L2, hc3, h⟩ := h
  refine fr_callV2 (ν := mu_X2_add) (st2 := []) (As := [.int x1]) (st := []) (v := none) (M1 := (Z, I1, L2)) dX7_add_5 rfl ml_X7_44 mo_X2_add mi_X2_add (ci := 2) rfl rfl k_o_texts (Nat.le_of_ble_eq_true rfl) rfl rfl (Nat.le_of_ble_eq_true rfl) hc3 rfl ?_
  exact fr_vret rfl dX7_add_8 h.1 h.2
abbrev Lp_X7_seek_17 (g : GE) (d : Nat) (o : Nat) (u1 : Int32) (u2 : Int32) (u3 : Int32) (M : Mem) (r : Option Value) (M' : Mem) : Prop := Fr g d mu_X7_seek 17 [(0, rf g o), (1, .int u1), (2, .int u2), (3, .int u3)] [] M r M'
theorem cp_X7_seek {g : GE} {Z : Zs} {I : Nat → Nat → Int32} {L : Nat → Nat → Int64} {r : Option Value} {M' : Mem} {o : Nat} {x1 : Int32} {o_slots : Nat} (k_o : KM Z o 7) (r_o_slots : Z.2.1 o 5 = some o_slots) (k_o_slots : KM Z o_slots 13) (h : (∃ (I1 : Nat → Nat → Int32) (L2 : Nat → Nat → Int64), Cl g 1 mu_J7_fill_53178 [rf g o_slots, .int 0] (Z, I, L) none (Z, I1, L2) ∧ (∀ I4 : Nat → Nat → Int32, I4 = rw1 I1 o (upd (I1 o) 6 0) → Lp_X7_seek_17 g 7 o x1 0 0 (Z, I4, L2) r M'))) : Cl g 7 mu_X7_seek [rf g o, .int x1] (Z, I, L) r M' := by
  refine cl_of (lv := [(0, rf g o), (1, .int x1)]) (by decide) (Nat.le_of_ble_eq_true rfl) rfl ?_
  refine fr_aload_n (i := 0) (q := 0) rfl dX7_seek_0 rfl ?_
  refine fr_getR dX7_seek_1 rfl fl_X7_30 k_o r_o_slots ?_
  refine fr_iconst (v := 0) (by decide) dX7_seek_4 rfl ?_
  obtain ⟨I1, L2, hc3, h⟩ := h
  refine fr_callS2 (ν := mu_J7_fill_53178) (st2 := []) (As := [rf g o_slots, .int 0]) (st := []) (v := none) (M1 := (Z, I1, L2)) dX7_seek_5 rfl ml_X7_47 mo_J7_fill_53178 ms_J7_fill_53178 (Nat.le_of_ble_eq_true rfl) rfl rfl (Nat.le_of_ble_eq_true rfl) hc3 rfl ?_
  refine fr_aload_n (i := 0) (q := 0) rfl dX7_seek_8 rfl ?_
  refine fr_iconst (v := 0) (by decide) dX7_seek_9 rfl ?_
  refine fr_putI dX7_seek_10 rfl fp_X7_53 k_o ?_
  refine fr_memI (fun I4 hI4 => ?_)
  have h := h I4 hI4
  refine fr_iconst (v := 0) (by decide) dX7_seek_13 rfl ?_
  refine fr_istore_n (i := 2) (lv' := [(2, .int 0), (0, rf g o), (1, .int x1)]) dX7_seek_14 rfl (by decide) rfl ?_
  refine fr_iconst (v := 0) (by decide) dX7_seek_15 rfl ?_
  refine fr_istore_n (i := 3) (lv' := [(3, .int 0), (2, .int 0), (0, rf g o), (1, .int x1)]) dX7_seek_16 rfl (by decide) rfl ?_
  exact fr_sub [2, 3, 1, 0] rfl h
abbrev Lp_X7_seek_65 (g : GE) (d : Nat) (o : Nat) (u3 : Int32) (M : Mem) (r : Option Value) (M' : Mem) : Prop := Fr g d mu_X7_seek 65 [(0, rf g o), (3, .int u3)] [] M r M'
theorem wp_X7_seek_17 {g : GE} {Z : Zs} {I : Nat → Nat → Int32} {L : Nat → Nat → Int64} {r : Option Value} {M' : Mem} {o : Nat} {u1 : Int32} {u2 : Int32} {u3 : Int32} {o_texts : Nat} (k_o : KM Z o 7) (r_o_texts : Z.2.1 o 1 = some o_texts) (k_o_texts : KM Z o_texts 2) (h : (∃ (v1 : Int32), Cl g 1 mu_X2_size [rf g o_texts] (Z, I, L) (some (.int v1)) (Z, I, L) ∧ ((v1 ≤ u3 → (∃ (v3 : Int32), Cl g 1 mu_X7_slotOf [rf g o, .int u2] (Z, I, L) (some (.int v3)) (Z, I, L) ∧ (∃ (I5 : Nat → Nat → Int32) (L6 : Nat → Nat → Int64), Cl g 1 mu_X7_keep [rf g o, .int u2, .int v3, .int ((-1)), .int ((-1))] (Z, I, L) none (Z, I5, L6) ∧ (∃ (v8 : Int32), Cl g 2 mu_X7_isThere [rf g o, .int u2] (Z, I5, L6) (some (.int v8)) (Z, I5, L6) ∧ ((v8 = 0 → Lp_X7_seek_65 g 7 o 0 (Z, I5, L6) r M') ∧ (¬ v8 = 0 → (r = some (.int 0) ∧ M' = (Z, I5, L6)))))))) ∧ (¬ v1 ≤ u3 → (∀ y10 : Int32, y10 = ((u2 * 100) + u1) → (∀ y11 : Int32, y11 = (u3 + 1) → Lp_X7_seek_17 g 7 o u1 y10 y11 (Z, I, L) r M')))))) : Lp_X7_seek_17 g 7 o u1 u2 u3 (Z, I, L) r M' := by
  refine fr_iload_n (i := 3) (q := 3) rfl dX7_seek_17 rfl ?_
  refine fr_aload_n (i := 0) (q := 0) rfl dX7_seek_18 rfl ?_
  refine fr_getR dX7_seek_19 rfl fl_X7_16 k_o r_o_texts ?_
  obtain ⟨v1, hc2, h⟩ := h
  refine fr_callV2 (ν := mu_X2_size) (st2 := [.int v1, .int u3]) (As := []) (st := [.int u3]) (v := (some (.int v1))) (M1 := (Z, I, L)) dX7_seek_22 rfl ml_X7_56 mo_X2_size mi_X2_size (ci := 2) rfl rfl k_o_texts (Nat.le_of_ble_eq_true rfl) rfl rfl (Nat.le_of_ble_eq_true rfl) hc2 rfl ?_
  refine fr_icmp_ge (tgt := 41) dX7_seek_25 (by decide) rfl (fun hc => ?_) (fun hc => ?_)
  · have h := h.1 hc
    refine fr_aload_n (i := 0) (q := 0) rfl dX7_seek_41 rfl ?_
    refine fr_iload_n (i := 2) (q := 2) rfl dX7_seek_42 rfl ?_
    refine fr_aload_n (i := 0) (q := 0) rfl dX7_seek_43 rfl ?_
    refine fr_iload_n (i := 2) (q := 2) rfl dX7_seek_44 rfl ?_
    obtain ⟨v3, hc4, h⟩ := h
    refine fr_callV2 (ν := mu_X7_slotOf) (st2 := [.int v3, .int u2, rf g o]) (As := [.int u2]) (st := [.int u2, rf g o]) (v := (some (.int v3))) (M1 := (Z, I, L)) dX7_seek_45 rfl ml_X7_60 mo_X7_slotOf mi_X7_slotOf (ci := 7) rfl rfl k_o (Nat.le_of_ble_eq_true rfl) rfl rfl (Nat.le_of_ble_eq_true rfl) hc4 rfl ?_
    refine fr_iconst (v := (-1)) (by decide) dX7_seek_48 rfl ?_
    refine fr_iconst (v := (-1)) (by decide) dX7_seek_49 rfl ?_
    obtain ⟨I5, L6, hc7, h⟩ := h
    refine fr_callV2 (ν := mu_X7_keep) (st2 := []) (As := [.int u2, .int v3, .int ((-1)), .int ((-1))]) (st := []) (v := none) (M1 := (Z, I5, L6)) dX7_seek_50 rfl ml_X7_64 mo_X7_keep mi_X7_keep (ci := 7) rfl rfl k_o (Nat.le_of_ble_eq_true rfl) rfl rfl (Nat.le_of_ble_eq_true rfl) hc7 rfl ?_
    refine fr_aload_n (i := 0) (q := 0) rfl dX7_seek_53 rfl ?_
    refine fr_iload_n (i := 2) (q := 2) rfl dX7_seek_54 rfl ?_
    obtain ⟨v8, hc9, h⟩ := h
    refine fr_callV2 (ν := mu_X7_isThere) (st2 := [.int v8]) (As := [.int u2]) (st := []) (v := (some (.int v8))) (M1 := (Z, I5, L6)) dX7_seek_55 rfl ml_X7_68 mo_X7_isThere mi_X7_isThere (ci := 7) rfl rfl k_o (Nat.le_of_ble_eq_true rfl) rfl rfl (Nat.le_of_ble_eq_true rfl) hc9 rfl ?_
    refine fr_if_eq (tgt := 63) dX7_seek_58 (by decide) rfl (fun hc => ?_) (fun hc => ?_)
    · have h := h.1 hc
      refine fr_iconst (v := 0) (by decide) dX7_seek_63 rfl ?_
      refine fr_istore_n (i := 3) (lv' := [(3, .int 0), (0, rf g o), (1, .int u1), (2, .int u2)]) dX7_seek_64 rfl (by decide) rfl ?_
      exact fr_sub [1, 0] rfl h
    · have h := h.2 hc
      refine fr_iconst (v := 0) (by decide) dX7_seek_61 rfl ?_
      exact fr_iret rfl dX7_seek_62 h.1 h.2
  · have h := h.2 hc
    refine fr_iload_n (i := 2) (q := 2) rfl dX7_seek_28 rfl ?_
    refine fr_bipush (v := 100) (by decide) dX7_seek_29 rfl ?_
    refine fr_imul dX7_seek_31 rfl ?_
    refine fr_iload_n (i := 1) (q := 1) rfl dX7_seek_32 rfl ?_
    refine fr_iadd dX7_seek_33 rfl ?_
    refine fr_topi (fun y10 hy10 => ?_)
    have h := h y10 hy10
    refine fr_istore_n (i := 2) (lv' := [(2, .int y10), (0, rf g o), (1, .int u1), (3, .int u3)]) dX7_seek_34 rfl (by decide) rfl ?_
    obtain ⟨y11, hy11⟩ : ∃ y : Int32, y = u3 + 1 := ⟨_, rfl⟩
    have h := h y11 hy11
    refine fr_iinc (q := 3) (v := y11) (lv' := [(3, .int y11), (2, .int y10), (0, rf g o), (1, .int u1)]) rfl (by rw [hy11]; rfl) dX7_seek_35 rfl (by decide) rfl ?_
    refine fr_goto (n := 17) dX7_seek_38 (by decide) ?_
    exact fr_sub [2, 3, 1, 0] rfl h
abbrev Lp_X7_seek_83 (g : GE) (d : Nat) (o : Nat) (u3 : Int32) (u4 : Int32) (M : Mem) (r : Option Value) (M' : Mem) : Prop := Fr g d mu_X7_seek 83 [(0, rf g o), (3, .int u3), (4, .int u4)] [] M r M'
theorem wp_X7_seek_65 {g : GE} {Z : Zs} {I : Nat → Nat → Int32} {L : Nat → Nat → Int64} {r : Option Value} {M' : Mem} {o : Nat} {u3 : Int32} (k_o : KM Z o 7) (h : (((I o 6) ≤ u3 → (r = some (.int ((-1))) ∧ M' = (Z, I, L))) ∧ (¬ (I o 6) ≤ u3 → ((3001 ≤ u3 → (r = some (.int ((-1))) ∧ M' = (Z, I, L))) ∧ (¬ 3001 ≤ u3 → Lp_X7_seek_83 g 7 o u3 0 (Z, I, L) r M'))))) : Lp_X7_seek_65 g 7 o u3 (Z, I, L) r M' := by
  refine fr_iload_n (i := 3) (q := 1) rfl dX7_seek_65 rfl ?_
  refine fr_aload_n (i := 0) (q := 0) rfl dX7_seek_66 rfl ?_
  refine fr_getI dX7_seek_67 rfl fl_X7_53 k_o ?_
  refine fr_icmp_ge (tgt := 174) dX7_seek_70 (by decide) rfl (fun hc => ?_) (fun hc => ?_)
  · have h := h.1 hc
    refine fr_iconst (v := (-1)) (by decide) dX7_seek_174 rfl ?_
    exact fr_iret rfl dX7_seek_175 h.1 h.2
  · have h := h.2 hc
    refine fr_iload_n (i := 3) (q := 1) rfl dX7_seek_73 rfl ?_
    refine fr_sipush (v := 3001) (by decide) dX7_seek_74 rfl ?_
    refine fr_icmp_ge (tgt := 174) dX7_seek_77 (by decide) rfl (fun hc => ?_) (fun hc => ?_)
    · have h := h.1 hc
      refine fr_iconst (v := (-1)) (by decide) dX7_seek_174 rfl ?_
      exact fr_iret rfl dX7_seek_175 h.1 h.2
    · have h := h.2 hc
      refine fr_iconst (v := 0) (by decide) dX7_seek_80 rfl ?_
      refine fr_istore (lv' := [(4, .int 0), (0, rf g o), (3, .int u3)]) dX7_seek_81 rfl (by decide) rfl ?_
      exact fr_sub [1, 2, 0] rfl h
theorem wp_X7_seek_83 {g : GE} {Z : Zs} {I : Nat → Nat → Int32} {L : Nat → Nat → Int64} {r : Option Value} {M' : Mem} {o : Nat} {u3 : Int32} {u4 : Int32} {o_rows : Nat} {o_slots : Nat} (k_o : KM Z o 7) (r_o_rows : Z.2.1 o 2 = some o_rows) (k_o_rows : KM Z o_rows 13) (r_o_slots : Z.2.1 o 5 = some o_slots) (k_o_slots : KM Z o_slots 13) (h : ((4 ≤ u4 → (∀ y1 : Int32, y1 = (u3 + 1) → Lp_X7_seek_65 g 7 o y1 (Z, I, L) r M')) ∧ (¬ 4 ≤ u4 → (vp_in u3 (Z.2.2.1 o_rows) ∧ (∃ (v3 : Int32) (I4 : Nat → Nat → Int32) (L5 : Nat → Nat → Int64), Cl g 6 mu_X7_rowBehind [rf g o, .int (I o_rows u3.toNatClampNeg), .int u4] (Z, I, L) (some (.int v3)) (Z, I4, L5) ∧ (∃ (v7 : Int32), Cl g 1 mu_X7_slotOf [rf g o, .int v3] (Z, I4, L5) (some (.int v7)) (Z, I4, L5) ∧ (vp_in v7 (Z.2.2.1 o_slots) ∧ (((I4 o_slots v7.toNatClampNeg) = 0 → (∃ (I10 : Nat → Nat → Int32) (L11 : Nat → Nat → Int64), Cl g 1 mu_X7_keep [rf g o, .int v3, .int v7, .int u3, .int u4] (Z, I4, L5) none (Z, I10, L11) ∧ (((I10 o 6) < 3001 → (∃ (v13 : Int32), Cl g 2 mu_X7_isThere [rf g o, .int v3] (Z, I10, L11) (some (.int v13)) (Z, I10, L11) ∧ ((v13 = 0 → (∀ y15 : Int32, y15 = (u4 + 1) → Lp_X7_seek_83 g 7 o u3 y15 (Z, I10, L11) r M')) ∧ (¬ v13 = 0 → (∃ (v16 : Int32), Cl g 1 mu_X7_tapsToLatest [rf g o] (Z, I10, L11) (some (.int v16)) (Z, I10, L11) ∧ (r = some (.int v16) ∧ M' = (Z, I10, L11))))))) ∧ (¬ (I10 o 6) < 3001 → (r = some (.int ((-2))) ∧ M' = (Z, I10, L11)))))) ∧ (¬ (I4 o_slots v7.toNatClampNeg) = 0 → (∀ y18 : Int32, y18 = (u4 + 1) → Lp_X7_seek_83 g 7 o u3 y18 (Z, I4, L5) r M')))))))))) : Lp_X7_seek_83 g 7 o u3 u4 (Z, I, L) r M' := by
  refine fr_iload (q := 2) rfl dX7_seek_83 rfl ?_
  refine fr_iconst (v := 4) (by decide) dX7_seek_85 rfl ?_
  refine fr_icmp_ge (tgt := 168) dX7_seek_86 (by decide) rfl (fun hc => ?_) (fun hc => ?_)
  · have h := h.1 hc
    obtain ⟨y1, hy1⟩ : ∃ y : Int32, y = u3 + 1 := ⟨_, rfl⟩
    have h := h y1 hy1
    refine fr_iinc (q := 1) (v := y1) (lv' := [(3, .int y1), (0, rf g o), (4, .int u4)]) rfl (by rw [hy1]; rfl) dX7_seek_168 rfl (by decide) rfl ?_
    refine fr_goto (n := 65) dX7_seek_171 (by decide) ?_
    exact fr_sub [1, 0] rfl h
  · have h := h.2 hc
    refine fr_aload_n (i := 0) (q := 0) rfl dX7_seek_89 rfl ?_
    refine fr_aload_n (i := 0) (q := 0) rfl dX7_seek_90 rfl ?_
    refine fr_getR dX7_seek_91 rfl fl_X7_20 k_o r_o_rows ?_
    refine fr_iload_n (i := 3) (q := 1) rfl dX7_seek_94 rfl ?_
    obtain ⟨hz2, h⟩ := h
    refine fr_iald dX7_seek_95 rfl k_o_rows hz2 ?_
    refine fr_iload (q := 2) rfl dX7_seek_96 rfl ?_
    obtain ⟨v3, I4, L5, hc6, h⟩ := h
    refine fr_callV2 (ν := mu_X7_rowBehind) (st2 := [.int v3]) (As := [.int (I o_rows u3.toNatClampNeg), .int u4]) (st := []) (v := (some (.int v3))) (M1 := (Z, I4, L5)) dX7_seek_98 rfl ml_X7_72 mo_X7_rowBehind mi_X7_rowBehind (ci := 7) rfl rfl k_o (Nat.le_of_ble_eq_true rfl) rfl rfl (Nat.le_of_ble_eq_true rfl) hc6 rfl ?_
    refine fr_istore (lv' := [(5, .int v3), (0, rf g o), (3, .int u3), (4, .int u4)]) dX7_seek_101 rfl (by decide) rfl ?_
    refine fr_aload_n (i := 0) (q := 1) rfl dX7_seek_103 rfl ?_
    refine fr_iload (q := 0) rfl dX7_seek_104 rfl ?_
    obtain ⟨v7, hc8, h⟩ := h
    refine fr_callV2 (ν := mu_X7_slotOf) (st2 := [.int v7]) (As := [.int v3]) (st := []) (v := (some (.int v7))) (M1 := (Z, I4, L5)) dX7_seek_106 rfl ml_X7_60 mo_X7_slotOf mi_X7_slotOf (ci := 7) rfl rfl k_o (Nat.le_of_ble_eq_true rfl) rfl rfl (Nat.le_of_ble_eq_true rfl) hc8 rfl ?_
    refine fr_istore (lv' := [(6, .int v7), (5, .int v3), (0, rf g o), (3, .int u3), (4, .int u4)]) dX7_seek_109 rfl (by decide) rfl ?_
    refine fr_aload_n (i := 0) (q := 2) rfl dX7_seek_111 rfl ?_
    refine fr_getR dX7_seek_112 rfl fl_X7_30 k_o r_o_slots ?_
    refine fr_iload (q := 0) rfl dX7_seek_115 rfl ?_
    obtain ⟨hz9, h⟩ := h
    refine fr_iald dX7_seek_117 rfl k_o_slots hz9 ?_
    refine fr_if_eq (tgt := 124) dX7_seek_118 (by decide) rfl (fun hc => ?_) (fun hc => ?_)
    · have h := h.1 hc
      refine fr_aload_n (i := 0) (q := 2) rfl dX7_seek_124 rfl ?_
      refine fr_iload (q := 1) rfl dX7_seek_125 rfl ?_
      refine fr_iload (q := 0) rfl dX7_seek_127 rfl ?_
      refine fr_iload_n (i := 3) (q := 3) rfl dX7_seek_129 rfl ?_
      refine fr_iload (q := 4) rfl dX7_seek_130 rfl ?_
      obtain ⟨I10, L11, hc12, h⟩ := h
      refine fr_callV2 (ν := mu_X7_keep) (st2 := []) (As := [.int v3, .int v7, .int u3, .int u4]) (st := []) (v := none) (M1 := (Z, I10, L11)) dX7_seek_132 rfl ml_X7_64 mo_X7_keep mi_X7_keep (ci := 7) rfl rfl k_o (Nat.le_of_ble_eq_true rfl) rfl rfl (Nat.le_of_ble_eq_true rfl) hc12 rfl ?_
      refine fr_aload_n (i := 0) (q := 2) rfl dX7_seek_135 rfl ?_
      refine fr_getI dX7_seek_136 rfl fl_X7_53 k_o ?_
      refine fr_sipush (v := 3001) (by decide) dX7_seek_139 rfl ?_
      refine fr_icmp_lt (tgt := 148) dX7_seek_142 (by decide) rfl (fun hc => ?_) (fun hc => ?_)
      · have h := h.1 hc
        refine fr_aload_n (i := 0) (q := 2) rfl dX7_seek_148 rfl ?_
        refine fr_iload (q := 1) rfl dX7_seek_149 rfl ?_
        obtain ⟨v13, hc14, h⟩ := h
        refine fr_callV2 (ν := mu_X7_isThere) (st2 := [.int v13]) (As := [.int v3]) (st := []) (v := (some (.int v13))) (M1 := (Z, I10, L11)) dX7_seek_151 rfl ml_X7_68 mo_X7_isThere mi_X7_isThere (ci := 7) rfl rfl k_o (Nat.le_of_ble_eq_true rfl) rfl rfl (Nat.le_of_ble_eq_true rfl) hc14 rfl ?_
        refine fr_if_eq (tgt := 162) dX7_seek_154 (by decide) rfl (fun hc => ?_) (fun hc => ?_)
        · have h := h.1 hc
          obtain ⟨y15, hy15⟩ : ∃ y : Int32, y = u4 + 1 := ⟨_, rfl⟩
          have h := h y15 hy15
          refine fr_iinc (q := 4) (v := y15) (lv' := [(4, .int y15), (6, .int v7), (5, .int v3), (0, rf g o), (3, .int u3)]) rfl (by rw [hy15]; rfl) dX7_seek_162 rfl (by decide) rfl ?_
          refine fr_goto (n := 83) dX7_seek_165 (by decide) ?_
          exact fr_sub [3, 4, 0] rfl h
        · have h := h.2 hc
          refine fr_aload_n (i := 0) (q := 2) rfl dX7_seek_157 rfl ?_
          obtain ⟨v16, hc17, h⟩ := h
          refine fr_callV2 (ν := mu_X7_tapsToLatest) (st2 := [.int v16]) (As := []) (st := []) (v := (some (.int v16))) (M1 := (Z, I10, L11)) dX7_seek_158 rfl ml_X7_76 mo_X7_tapsToLatest mi_X7_tapsToLatest (ci := 7) rfl rfl k_o (Nat.le_of_ble_eq_true rfl) rfl rfl (Nat.le_of_ble_eq_true rfl) hc17 rfl ?_
          exact fr_iret rfl dX7_seek_161 h.1 h.2
      · have h := h.2 hc
        refine fr_bipush (v := (-2)) (by decide) dX7_seek_145 rfl ?_
        exact fr_iret rfl dX7_seek_147 h.1 h.2
    · have h := h.2 hc
      refine fr_goto (n := 162) dX7_seek_121 (by decide) ?_
      obtain ⟨y18, hy18⟩ : ∃ y : Int32, y = u4 + 1 := ⟨_, rfl⟩
      have h := h y18 hy18
      refine fr_iinc (q := 4) (v := y18) (lv' := [(4, .int y18), (6, .int v7), (5, .int v3), (0, rf g o), (3, .int u3)]) rfl (by rw [hy18]; rfl) dX7_seek_162 rfl (by decide) rfl ?_
      refine fr_goto (n := 83) dX7_seek_165 (by decide) ?_
      exact fr_sub [3, 4, 0] rfl h
abbrev Lp_X7_tapAt_12 (g : GE) (d : Nat) (o : Nat) (u2 : Int32) (u3 : Int32) (u4 : Int32) (M : Mem) (r : Option Value) (M' : Mem) : Prop := Fr g d mu_X7_tapAt 12 [(0, rf g o), (2, .int u2), (3, .int u3), (4, .int u4)] [] M r M'
theorem cp_X7_tapAt {g : GE} {Z : Zs} {I : Nat → Nat → Int32} {L : Nat → Nat → Int64} {r : Option Value} {M' : Mem} {o : Nat} {x1 : Int32} {x2 : Int32} (k_o : KM Z o 7) (h : (∀ y1 : Int32, y1 = ((I o 6) - 1) → (∀ y2 : Int32, y2 = (x1 - 1) → Lp_X7_tapAt_12 g 1 o x2 y1 y2 (Z, I, L) r M'))) : Cl g 1 mu_X7_tapAt [rf g o, .int x1, .int x2] (Z, I, L) r M' := by
  refine cl_of (lv := [(0, rf g o), (1, .int x1), (2, .int x2)]) (by decide) (Nat.le_of_ble_eq_true rfl) rfl ?_
  refine fr_aload_n (i := 0) (q := 0) rfl dX7_tapAt_0 rfl ?_
  refine fr_getI dX7_tapAt_1 rfl fl_X7_53 k_o ?_
  refine fr_iconst (v := 1) (by decide) dX7_tapAt_4 rfl ?_
  refine fr_isub dX7_tapAt_5 rfl ?_
  refine fr_topi (fun y1 hy1 => ?_)
  have h := h y1 hy1
  refine fr_istore_n (i := 3) (lv' := [(3, .int y1), (0, rf g o), (1, .int x1), (2, .int x2)]) dX7_tapAt_6 rfl (by decide) rfl ?_
  refine fr_iload_n (i := 1) (q := 2) rfl dX7_tapAt_7 rfl ?_
  refine fr_iconst (v := 1) (by decide) dX7_tapAt_8 rfl ?_
  refine fr_isub dX7_tapAt_9 rfl ?_
  refine fr_topi (fun y2 hy2 => ?_)
  have h := h y2 hy2
  refine fr_istore (lv' := [(4, .int y2), (3, .int y1), (0, rf g o), (1, .int x1), (2, .int x2)]) dX7_tapAt_10 rfl (by decide) rfl ?_
  exact fr_sub [2, 4, 1, 0] rfl h
theorem wp_X7_tapAt_12 {g : GE} {Z : Zs} {I : Nat → Nat → Int32} {L : Nat → Nat → Int64} {r : Option Value} {M' : Mem} {o : Nat} {u2 : Int32} {u3 : Int32} {u4 : Int32} {o_tapTo : Nat} {o_before : Nat} (k_o : KM Z o 7) (r_o_tapTo : Z.2.1 o 4 = some o_tapTo) (k_o_tapTo : KM Z o_tapTo 13) (r_o_before : Z.2.1 o 3 = some o_before) (k_o_before : KM Z o_before 13) (h : ((u4 ≤ u2 → ((u3 ≤ 0 → (r = some (.int ((-1))) ∧ M' = (Z, I, L))) ∧ (¬ u3 ≤ 0 → (vp_in u3 (Z.2.2.1 o_tapTo) ∧ (r = some (.int (I o_tapTo u3.toNatClampNeg)) ∧ M' = (Z, I, L)))))) ∧ (¬ u4 ≤ u2 → ((u3 ≤ 0 → ((u3 ≤ 0 → (r = some (.int ((-1))) ∧ M' = (Z, I, L))) ∧ (¬ u3 ≤ 0 → (vp_in u3 (Z.2.2.1 o_tapTo) ∧ (r = some (.int (I o_tapTo u3.toNatClampNeg)) ∧ M' = (Z, I, L)))))) ∧ (¬ u3 ≤ 0 → (vp_in u3 (Z.2.2.1 o_before) ∧ (∀ y4 : Int32, y4 = (I o_before u3.toNatClampNeg) → (∀ y5 : Int32, y5 = (u4 + (-1)) → Lp_X7_tapAt_12 g 1 o u2 y4 y5 (Z, I, L) r M')))))))) : Lp_X7_tapAt_12 g 1 o u2 u3 u4 (Z, I, L) r M' := by
  refine fr_iload (q := 3) rfl dX7_tapAt_12 rfl ?_
  refine fr_iload_n (i := 2) (q := 1) rfl dX7_tapAt_14 rfl ?_
  refine fr_icmp_le (tgt := 35) dX7_tapAt_15 (by decide) rfl (fun hc => ?_) (fun hc => ?_)
  · have h := h.1 hc
    refine fr_iload_n (i := 3) (q := 2) rfl dX7_tapAt_35 rfl ?_
    refine fr_if_le (tgt := 48) dX7_tapAt_36 (by decide) rfl (fun hc => ?_) (fun hc => ?_)
    · have h := h.1 hc
      refine fr_iconst (v := (-1)) (by decide) dX7_tapAt_48 rfl ?_
      exact fr_iret rfl dX7_tapAt_49 h.1 h.2
    · have h := h.2 hc
      refine fr_aload_n (i := 0) (q := 0) rfl dX7_tapAt_39 rfl ?_
      refine fr_getR dX7_tapAt_40 rfl fl_X7_27 k_o r_o_tapTo ?_
      refine fr_iload_n (i := 3) (q := 2) rfl dX7_tapAt_43 rfl ?_
      obtain ⟨hz1, h⟩ := h
      refine fr_iald dX7_tapAt_44 rfl k_o_tapTo hz1 ?_
      refine fr_goto (n := 49) dX7_tapAt_45 (by decide) ?_
      exact fr_iret rfl dX7_tapAt_49 h.1 h.2
  · have h := h.2 hc
    refine fr_iload_n (i := 3) (q := 2) rfl dX7_tapAt_18 rfl ?_
    refine fr_if_le (tgt := 35) dX7_tapAt_19 (by decide) rfl (fun hc => ?_) (fun hc => ?_)
    · have h := h.1 hc
      refine fr_iload_n (i := 3) (q := 2) rfl dX7_tapAt_35 rfl ?_
      refine fr_if_le (tgt := 48) dX7_tapAt_36 (by decide) rfl (fun hc => ?_) (fun hc => ?_)
      · have h := h.1 hc
        refine fr_iconst (v := (-1)) (by decide) dX7_tapAt_48 rfl ?_
        exact fr_iret rfl dX7_tapAt_49 h.1 h.2
      · have h := h.2 hc
        refine fr_aload_n (i := 0) (q := 0) rfl dX7_tapAt_39 rfl ?_
        refine fr_getR dX7_tapAt_40 rfl fl_X7_27 k_o r_o_tapTo ?_
        refine fr_iload_n (i := 3) (q := 2) rfl dX7_tapAt_43 rfl ?_
        obtain ⟨hz2, h⟩ := h
        refine fr_iald dX7_tapAt_44 rfl k_o_tapTo hz2 ?_
        refine fr_goto (n := 49) dX7_tapAt_45 (by decide) ?_
        exact fr_iret rfl dX7_tapAt_49 h.1 h.2
    · have h := h.2 hc
      refine fr_aload_n (i := 0) (q := 0) rfl dX7_tapAt_22 rfl ?_
      refine fr_getR dX7_tapAt_23 rfl fl_X7_24 k_o r_o_before ?_
      refine fr_iload_n (i := 3) (q := 2) rfl dX7_tapAt_26 rfl ?_
      obtain ⟨hz3, h⟩ := h
      refine fr_iald dX7_tapAt_27 rfl k_o_before hz3 ?_
      refine fr_topi (fun y4 hy4 => ?_)
      have h := h y4 hy4
      refine fr_istore_n (i := 3) (lv' := [(3, .int y4), (0, rf g o), (2, .int u2), (4, .int u4)]) dX7_tapAt_28 rfl (by decide) rfl ?_
      obtain ⟨y5, hy5⟩ : ∃ y : Int32, y = u4 + (-1) := ⟨_, rfl⟩
      have h := h y5 hy5
      refine fr_iinc (q := 3) (v := y5) (lv' := [(4, .int y5), (3, .int y4), (0, rf g o), (2, .int u2)]) rfl (by rw [hy5]; rfl) dX7_tapAt_29 rfl (by decide) rfl ?_
      refine fr_goto (n := 12) dX7_tapAt_32 (by decide) ?_
      exact fr_sub [2, 3, 1, 0] rfl h
abbrev Lp_X7_tapsToLatest_11 (g : GE) (d : Nat) (o : Nat) (u1 : Int32) (u2 : Int32) (u3 : Int32) (M : Mem) (r : Option Value) (M' : Mem) : Prop := Fr g d mu_X7_tapsToLatest 11 [(0, rf g o), (1, .int u1), (2, .int u2), (3, .int u3)] [] M r M'
theorem cp_X7_tapsToLatest {g : GE} {Z : Zs} {I : Nat → Nat → Int32} {L : Nat → Nat → Int64} {r : Option Value} {M' : Mem} {o : Nat} (k_o : KM Z o 7) (h : (∀ y1 : Int32, y1 = ((I o 6) - 1) → Lp_X7_tapsToLatest_11 g 1 o 0 y1 0 (Z, I, L) r M')) : Cl g 1 mu_X7_tapsToLatest [rf g o] (Z, I, L) r M' := by
  refine cl_of (lv := [(0, rf g o)]) (by decide) (Nat.le_of_ble_eq_true rfl) rfl ?_
  refine fr_iconst (v := 0) (by decide) dX7_tapsToLatest_0 rfl ?_
  refine fr_istore_n (i := 1) (lv' := [(1, .int 0), (0, rf g o)]) dX7_tapsToLatest_1 rfl (by decide) rfl ?_
  refine fr_aload_n (i := 0) (q := 1) rfl dX7_tapsToLatest_2 rfl ?_
  refine fr_getI dX7_tapsToLatest_3 rfl fl_X7_53 k_o ?_
  refine fr_iconst (v := 1) (by decide) dX7_tapsToLatest_6 rfl ?_
  refine fr_isub dX7_tapsToLatest_7 rfl ?_
  refine fr_topi (fun y1 hy1 => ?_)
  have h := h y1 hy1
  refine fr_istore_n (i := 2) (lv' := [(2, .int y1), (1, .int 0), (0, rf g o)]) dX7_tapsToLatest_8 rfl (by decide) rfl ?_
  refine fr_iconst (v := 0) (by decide) dX7_tapsToLatest_9 rfl ?_
  refine fr_istore_n (i := 3) (lv' := [(3, .int 0), (2, .int y1), (1, .int 0), (0, rf g o)]) dX7_tapsToLatest_10 rfl (by decide) rfl ?_
  exact fr_sub [3, 2, 1, 0] rfl h
theorem wp_X7_tapsToLatest_11 {g : GE} {Z : Zs} {I : Nat → Nat → Int32} {L : Nat → Nat → Int64} {r : Option Value} {M' : Mem} {o : Nat} {u1 : Int32} {u2 : Int32} {u3 : Int32} {o_before : Nat} (k_o : KM Z o 7) (r_o_before : Z.2.1 o 3 = some o_before) (k_o_before : KM Z o_before 13) (h : ((3001 ≤ u3 → (r = some (.int u1) ∧ M' = (Z, I, L))) ∧ (¬ 3001 ≤ u3 → ((u2 ≤ 0 → (r = some (.int u1) ∧ M' = (Z, I, L))) ∧ (¬ u2 ≤ 0 → (vp_in u2 (Z.2.2.1 o_before) ∧ (∀ y2 : Int32, y2 = (I o_before u2.toNatClampNeg) → (∀ y3 : Int32, y3 = (u1 + 1) → (∀ y4 : Int32, y4 = (u3 + 1) → Lp_X7_tapsToLatest_11 g 1 o y3 y2 y4 (Z, I, L) r M'))))))))) : Lp_X7_tapsToLatest_11 g 1 o u1 u2 u3 (Z, I, L) r M' := by
  refine fr_iload_n (i := 3) (q := 3) rfl dX7_tapsToLatest_11 rfl ?_
  refine fr_sipush (v := 3001) (by decide) dX7_tapsToLatest_12 rfl ?_
  refine fr_icmp_ge (tgt := 38) dX7_tapsToLatest_15 (by decide) rfl (fun hc => ?_) (fun hc => ?_)
  · have h := h.1 hc
    refine fr_iload_n (i := 1) (q := 1) rfl dX7_tapsToLatest_38 rfl ?_
    exact fr_iret rfl dX7_tapsToLatest_39 h.1 h.2
  · have h := h.2 hc
    refine fr_iload_n (i := 2) (q := 2) rfl dX7_tapsToLatest_18 rfl ?_
    refine fr_if_le (tgt := 38) dX7_tapsToLatest_19 (by decide) rfl (fun hc => ?_) (fun hc => ?_)
    · have h := h.1 hc
      refine fr_iload_n (i := 1) (q := 1) rfl dX7_tapsToLatest_38 rfl ?_
      exact fr_iret rfl dX7_tapsToLatest_39 h.1 h.2
    · have h := h.2 hc
      refine fr_aload_n (i := 0) (q := 0) rfl dX7_tapsToLatest_22 rfl ?_
      refine fr_getR dX7_tapsToLatest_23 rfl fl_X7_24 k_o r_o_before ?_
      refine fr_iload_n (i := 2) (q := 2) rfl dX7_tapsToLatest_26 rfl ?_
      obtain ⟨hz1, h⟩ := h
      refine fr_iald dX7_tapsToLatest_27 rfl k_o_before hz1 ?_
      refine fr_topi (fun y2 hy2 => ?_)
      have h := h y2 hy2
      refine fr_istore_n (i := 2) (lv' := [(2, .int y2), (0, rf g o), (1, .int u1), (3, .int u3)]) dX7_tapsToLatest_28 rfl (by decide) rfl ?_
      obtain ⟨y3, hy3⟩ : ∃ y : Int32, y = u1 + 1 := ⟨_, rfl⟩
      have h := h y3 hy3
      refine fr_iinc (q := 2) (v := y3) (lv' := [(1, .int y3), (2, .int y2), (0, rf g o), (3, .int u3)]) rfl (by rw [hy3]; rfl) dX7_tapsToLatest_29 rfl (by decide) rfl ?_
      obtain ⟨y4, hy4⟩ : ∃ y : Int32, y = u3 + 1 := ⟨_, rfl⟩
      have h := h y4 hy4
      refine fr_iinc (q := 3) (v := y4) (lv' := [(3, .int y4), (1, .int y3), (2, .int y2), (0, rf g o)]) rfl (by rw [hy4]; rfl) dX7_tapsToLatest_32 rfl (by decide) rfl ?_
      refine fr_goto (n := 11) dX7_tapsToLatest_35 (by decide) ?_
      exact fr_sub [3, 1, 2, 0] rfl h
abbrev Lp_X7_rowBehind_19 (g : GE) (d : Nat) (o : Nat) (u2 : Int32) (u3 : Int32) (u4 : Int32) (u5 : Int32) (u6 : Int32) (M : Mem) (r : Option Value) (M' : Mem) : Prop := Fr g d mu_X7_rowBehind 19 [(0, rf g o), (2, .int u2), (3, .int u3), (4, .int u4), (5, .int u5), (6, .int u6)] [] M r M'
theorem cp_X7_rowBehind {g : GE} {Z : Zs} {I : Nat → Nat → Int32} {L : Nat → Nat → Int64} {r : Option Value} {M' : Mem} {o : Nat} {x1 : Int32} {x2 : Int32} {o_texts : Nat} (k_o : KM Z o 7) (r_o_texts : Z.2.1 o 1 = some o_texts) (k_o_texts : KM Z o_texts 2) (h : (∃ (v1 : Int32), Cl g 1 mu_X2_size [rf g o_texts] (Z, I, L) (some (.int v1)) (Z, I, L) ∧ (∀ y3 : Int32, y3 = (v1 - 1) → Lp_X7_rowBehind_19 g 6 o x2 x1 0 1 y3 (Z, I, L) r M'))) : Cl g 6 mu_X7_rowBehind [rf g o, .int x1, .int x2] (Z, I, L) r M' := by
  refine cl_of (lv := [(0, rf g o), (1, .int x1), (2, .int x2)]) (by decide) (Nat.le_of_ble_eq_true rfl) rfl ?_
  refine fr_iload_n (i := 1) (q := 1) rfl dX7_rowBehind_0 rfl ?_
  refine fr_istore_n (i := 3) (lv' := [(3, .int x1), (0, rf g o), (1, .int x1), (2, .int x2)]) dX7_rowBehind_1 rfl (by decide) rfl ?_
  refine fr_iconst (v := 0) (by decide) dX7_rowBehind_2 rfl ?_
  refine fr_istore (lv' := [(4, .int 0), (3, .int x1), (0, rf g o), (1, .int x1), (2, .int x2)]) dX7_rowBehind_3 rfl (by decide) rfl ?_
  refine fr_iconst (v := 1) (by decide) dX7_rowBehind_5 rfl ?_
  refine fr_istore (lv' := [(5, .int 1), (4, .int 0), (3, .int x1), (0, rf g o), (1, .int x1), (2, .int x2)]) dX7_rowBehind_6 rfl (by decide) rfl ?_
  refine fr_aload_n (i := 0) (q := 3) rfl dX7_rowBehind_8 rfl ?_
  refine fr_getR dX7_rowBehind_9 rfl fl_X7_16 k_o r_o_texts ?_
  obtain ⟨v1, hc2, h⟩ := h
  refine fr_callV2 (ν := mu_X2_size) (st2 := [.int v1]) (As := []) (st := []) (v := (some (.int v1))) (M1 := (Z, I, L)) dX7_rowBehind_12 rfl ml_X7_56 mo_X2_size mi_X2_size (ci := 2) rfl rfl k_o_texts (Nat.le_of_ble_eq_true rfl) rfl rfl (Nat.le_of_ble_eq_true rfl) hc2 rfl ?_
  refine fr_iconst (v := 1) (by decide) dX7_rowBehind_15 rfl ?_
  refine fr_isub dX7_rowBehind_16 rfl ?_
  refine fr_topi (fun y3 hy3 => ?_)
  have h := h y3 hy3
  refine fr_istore (lv' := [(6, .int y3), (5, .int 1), (4, .int 0), (3, .int x1), (0, rf g o), (1, .int x1), (2, .int x2)]) dX7_rowBehind_17 rfl (by decide) rfl ?_
  exact fr_sub [4, 6, 3, 2, 1, 0] rfl h
theorem wp_X7_rowBehind_19 {g : GE} {Z : Zs} {I : Nat → Nat → Int32} {L : Nat → Nat → Int64} {r : Option Value} {M' : Mem} {o : Nat} {u2 : Int32} {u3 : Int32} {u4 : Int32} {u5 : Int32} {u6 : Int32} {o_legs : Nat} {o_texts : Nat} (k_o : KM Z o 7) (r_o_legs : Z.2.1 o 0 = some o_legs) (k_o_legs : KM Z o_legs 3) (r_o_texts : Z.2.1 o 1 = some o_texts) (k_o_texts : KM Z o_texts 2) (h : ((u6 < 0 → (r = some (.int u4) ∧ M' = (Z, I, L))) ∧ (¬ u6 < 0 → (∃ (v1 : Int32), Cl g 1 mu_X2_at [rf g o_texts, .int u6] (Z, I, L) (some (.int v1)) (Z, I, L) ∧ (∃ (v3 : Int32) (I4 : Nat → Nat → Int32) (L5 : Nat → Nat → Int64), Cl g 5 mu_X3_step [rf g o_legs, .int v1, .int (u3 - u3 / 100 * 100), .int u2] (Z, I, L) (some (.int v3)) (Z, I4, L5) ∧ (∃ (v7 : Int32), Cl g 1 mu_X11_poseOf [.int v3] (Z, I4, L5) (some (.int v7)) (Z, I4, L5) ∧ (∀ y9 : Int32, y9 = (u4 + (u5 * v7)) → (∀ y10 : Int32, y10 = (u3 / 100) → (∀ y11 : Int32, y11 = (u5 * 100) → (∀ y12 : Int32, y12 = (u6 + (-1)) → Lp_X7_rowBehind_19 g 6 o u2 y10 y9 y11 y12 (Z, I4, L5) r M')))))))))) : Lp_X7_rowBehind_19 g 6 o u2 u3 u4 u5 u6 (Z, I, L) r M' := by
  refine fr_iload (q := 5) rfl dX7_rowBehind_19 rfl ?_
  refine fr_if_lt (tgt := 74) dX7_rowBehind_21 (by decide) rfl (fun hc => ?_) (fun hc => ?_)
  · have h := h.1 hc
    refine fr_iload (q := 3) rfl dX7_rowBehind_74 rfl ?_
    exact fr_iret rfl dX7_rowBehind_76 h.1 h.2
  · have h := h.2 hc
    refine fr_iload (q := 3) rfl dX7_rowBehind_24 rfl ?_
    refine fr_iload (q := 4) rfl dX7_rowBehind_26 rfl ?_
    refine fr_aload_n (i := 0) (q := 0) rfl dX7_rowBehind_28 rfl ?_
    refine fr_getR dX7_rowBehind_29 rfl fl_X7_33 k_o r_o_legs ?_
    refine fr_aload_n (i := 0) (q := 0) rfl dX7_rowBehind_32 rfl ?_
    refine fr_getR dX7_rowBehind_33 rfl fl_X7_16 k_o r_o_texts ?_
    refine fr_iload (q := 5) rfl dX7_rowBehind_36 rfl ?_
    obtain ⟨v1, hc2, h⟩ := h
    refine fr_callV2 (ν := mu_X2_at) (st2 := [.int v1, rf g o_legs, .int u5, .int u4]) (As := [.int u6]) (st := [rf g o_legs, .int u5, .int u4]) (v := (some (.int v1))) (M1 := (Z, I, L)) dX7_rowBehind_38 rfl ml_X7_79 mo_X2_at mi_X2_at (ci := 2) rfl rfl k_o_texts (Nat.le_of_ble_eq_true rfl) rfl rfl (Nat.le_of_ble_eq_true rfl) hc2 rfl ?_
    refine fr_iload_n (i := 3) (q := 2) rfl dX7_rowBehind_41 rfl ?_
    refine fr_bipush (v := 100) (by decide) dX7_rowBehind_42 rfl ?_
    refine fr_irem (by decide) dX7_rowBehind_44 rfl ?_
    refine fr_iload_n (i := 2) (q := 1) rfl dX7_rowBehind_45 rfl ?_
    obtain ⟨v3, I4, L5, hc6, h⟩ := h
    refine fr_callV2 (ν := mu_X3_step) (st2 := [.int v3, .int u5, .int u4]) (As := [.int v1, .int (u3 - u3 / 100 * 100), .int u2]) (st := [.int u5, .int u4]) (v := (some (.int v3))) (M1 := (Z, I4, L5)) dX7_rowBehind_46 rfl ml_X7_82 mo_X3_step mi_X3_step (ci := 3) rfl rfl k_o_legs (Nat.le_of_ble_eq_true rfl) rfl rfl (Nat.le_of_ble_eq_true rfl) hc6 rfl ?_
    obtain ⟨v7, hc8, h⟩ := h
    refine fr_callSN2 (ν := mu_X11_poseOf) (st2 := [.int v7, .int u5, .int u4]) (As := [.int v3]) (st := [.int u5, .int u4]) (v := (some (.int v7))) (M1 := (Z, I4, L5)) dX7_rowBehind_49 rfl (by decide) mo_X11_poseOf ms_X11_poseOf (Nat.le_of_ble_eq_true rfl) rfl rfl (Nat.le_of_ble_eq_true rfl) hc8 rfl ?_
    refine fr_imul dX7_rowBehind_52 rfl ?_
    refine fr_iadd dX7_rowBehind_53 rfl ?_
    refine fr_topi (fun y9 hy9 => ?_)
    have h := h y9 hy9
    refine fr_istore (lv' := [(4, .int y9), (0, rf g o), (2, .int u2), (3, .int u3), (5, .int u5), (6, .int u6)]) dX7_rowBehind_54 rfl (by decide) rfl ?_
    refine fr_iload_n (i := 3) (q := 3) rfl dX7_rowBehind_56 rfl ?_
    refine fr_bipush (v := 100) (by decide) dX7_rowBehind_57 rfl ?_
    refine fr_idiv (by decide) dX7_rowBehind_59 rfl ?_
    refine fr_topi (fun y10 hy10 => ?_)
    have h := h y10 hy10
    refine fr_istore_n (i := 3) (lv' := [(3, .int y10), (4, .int y9), (0, rf g o), (2, .int u2), (5, .int u5), (6, .int u6)]) dX7_rowBehind_60 rfl (by decide) rfl ?_
    refine fr_iload (q := 4) rfl dX7_rowBehind_61 rfl ?_
    refine fr_bipush (v := 100) (by decide) dX7_rowBehind_63 rfl ?_
    refine fr_imul dX7_rowBehind_65 rfl ?_
    refine fr_topi (fun y11 hy11 => ?_)
    have h := h y11 hy11
    refine fr_istore (lv' := [(5, .int y11), (3, .int y10), (4, .int y9), (0, rf g o), (2, .int u2), (6, .int u6)]) dX7_rowBehind_66 rfl (by decide) rfl ?_
    obtain ⟨y12, hy12⟩ : ∃ y : Int32, y = u6 + (-1) := ⟨_, rfl⟩
    have h := h y12 hy12
    refine fr_iinc (q := 5) (v := y12) (lv' := [(6, .int y12), (5, .int y11), (3, .int y10), (4, .int y9), (0, rf g o), (2, .int u2)]) rfl (by rw [hy12]; rfl) dX7_rowBehind_68 rfl (by decide) rfl ?_
    refine fr_goto (n := 19) dX7_rowBehind_71 (by decide) ?_
    exact fr_sub [4, 5, 2, 3, 1, 0] rfl h
abbrev Lp_X7_isThere_16 (g : GE) (d : Nat) (o : Nat) (u2 : Int32) (u3 : Int32) (u4 : Int32) (u5 : Int32) (u6 : Int32) (M : Mem) (r : Option Value) (M' : Mem) : Prop := Fr g d mu_X7_isThere 16 [(0, rf g o), (2, .int u2), (3, .int u3), (4, .int u4), (5, .int u5), (6, .int u6)] [] M r M'
theorem cp_X7_isThere {g : GE} {Z : Zs} {I : Nat → Nat → Int32} {L : Nat → Nat → Int64} {r : Option Value} {M' : Mem} {o : Nat} {x1 : Int32} (k_o : KM Z o 7) (h : (∀ y1 : Int32, y1 = (x1 - x1 / 100 * 100) → Lp_X7_isThere_16 g 2 o x1 y1 1 1 0 (Z, I, L) r M')) : Cl g 2 mu_X7_isThere [rf g o, .int x1] (Z, I, L) r M' := by
  refine cl_of (lv := [(0, rf g o), (1, .int x1)]) (by decide) (Nat.le_of_ble_eq_true rfl) rfl ?_
  refine fr_iload_n (i := 1) (q := 1) rfl dX7_isThere_0 rfl ?_
  refine fr_istore_n (i := 2) (lv' := [(2, .int x1), (0, rf g o), (1, .int x1)]) dX7_isThere_1 rfl (by decide) rfl ?_
  refine fr_iload_n (i := 1) (q := 2) rfl dX7_isThere_2 rfl ?_
  refine fr_bipush (v := 100) (by decide) dX7_isThere_3 rfl ?_
  refine fr_irem (by decide) dX7_isThere_5 rfl ?_
  refine fr_topi (fun y1 hy1 => ?_)
  have h := h y1 hy1
  refine fr_istore_n (i := 3) (lv' := [(3, .int y1), (2, .int x1), (0, rf g o), (1, .int x1)]) dX7_isThere_6 rfl (by decide) rfl ?_
  refine fr_iconst (v := 1) (by decide) dX7_isThere_7 rfl ?_
  refine fr_istore (lv' := [(4, .int 1), (3, .int y1), (2, .int x1), (0, rf g o), (1, .int x1)]) dX7_isThere_8 rfl (by decide) rfl ?_
  refine fr_iconst (v := 1) (by decide) dX7_isThere_10 rfl ?_
  refine fr_istore (lv' := [(5, .int 1), (4, .int 1), (3, .int y1), (2, .int x1), (0, rf g o), (1, .int x1)]) dX7_isThere_11 rfl (by decide) rfl ?_
  refine fr_iconst (v := 0) (by decide) dX7_isThere_13 rfl ?_
  refine fr_istore (lv' := [(6, .int 0), (5, .int 1), (4, .int 1), (3, .int y1), (2, .int x1), (0, rf g o), (1, .int x1)]) dX7_isThere_14 rfl (by decide) rfl ?_
  exact fr_sub [5, 4, 3, 2, 1, 0] rfl h
theorem wp_X7_isThere_16 {g : GE} {Z : Zs} {I : Nat → Nat → Int32} {L : Nat → Nat → Int64} {r : Option Value} {M' : Mem} {o : Nat} {u2 : Int32} {u3 : Int32} {u4 : Int32} {u5 : Int32} {u6 : Int32} {o_texts : Nat} (k_o : KM Z o 7) (r_o_texts : Z.2.1 o 1 = some o_texts) (k_o_texts : KM Z o_texts 2) (h : (∃ (v1 : Int32), Cl g 1 mu_X2_size [rf g o_texts] (Z, I, L) (some (.int v1)) (Z, I, L) ∧ ((v1 ≤ u6 → ((¬ (I o 7) = ((-1)) → ((u4 = 0 ∨ u4 = 1) ∧ r = some (.int u4) ∧ M' = (Z, I, L))) ∧ ((I o 7) = ((-1)) → ((¬ u5 = 0 → (r = some (.int 0) ∧ M' = (Z, I, L))) ∧ (u5 = 0 → (r = some (.int 1) ∧ M' = (Z, I, L))))))) ∧ (¬ v1 ≤ u6 → ((u4 = 0 → ((u5 = 0 → (∀ y3 : Int32, y3 = (u2 / 100) → (∀ y4 : Int32, y4 = (u6 + 1) → Lp_X7_isThere_16 g 2 o y3 u3 0 0 y4 (Z, I, L) r M'))) ∧ (¬ u5 = 0 → ((¬ (u2 - u2 / 100 * 100) = u3 → (∀ y5 : Int32, y5 = (u2 / 100) → (∀ y6 : Int32, y6 = (u6 + 1) → Lp_X7_isThere_16 g 2 o y5 u3 0 0 y6 (Z, I, L) r M'))) ∧ ((u2 - u2 / 100 * 100) = u3 → (∀ y7 : Int32, y7 = (u2 / 100) → (∀ y8 : Int32, y8 = (u6 + 1) → Lp_X7_isThere_16 g 2 o y7 u3 0 1 y8 (Z, I, L) r M'))))))) ∧ (¬ u4 = 0 → ((¬ ((u2 - u2 / 100 * 100) / 4) = (I o 7) → ((u5 = 0 → (∀ y9 : Int32, y9 = (u2 / 100) → (∀ y10 : Int32, y10 = (u6 + 1) → Lp_X7_isThere_16 g 2 o y9 u3 0 0 y10 (Z, I, L) r M'))) ∧ (¬ u5 = 0 → ((¬ (u2 - u2 / 100 * 100) = u3 → (∀ y11 : Int32, y11 = (u2 / 100) → (∀ y12 : Int32, y12 = (u6 + 1) → Lp_X7_isThere_16 g 2 o y11 u3 0 0 y12 (Z, I, L) r M'))) ∧ ((u2 - u2 / 100 * 100) = u3 → (∀ y13 : Int32, y13 = (u2 / 100) → (∀ y14 : Int32, y14 = (u6 + 1) → Lp_X7_isThere_16 g 2 o y13 u3 0 1 y14 (Z, I, L) r M'))))))) ∧ (((u2 - u2 / 100 * 100) / 4) = (I o 7) → ((u5 = 0 → (∀ y15 : Int32, y15 = (u2 / 100) → (∀ y16 : Int32, y16 = (u6 + 1) → Lp_X7_isThere_16 g 2 o y15 u3 1 0 y16 (Z, I, L) r M'))) ∧ (¬ u5 = 0 → ((¬ (u2 - u2 / 100 * 100) = u3 → (∀ y17 : Int32, y17 = (u2 / 100) → (∀ y18 : Int32, y18 = (u6 + 1) → Lp_X7_isThere_16 g 2 o y17 u3 1 0 y18 (Z, I, L) r M'))) ∧ ((u2 - u2 / 100 * 100) = u3 → (∀ y19 : Int32, y19 = (u2 / 100) → (∀ y20 : Int32, y20 = (u6 + 1) → Lp_X7_isThere_16 g 2 o y19 u3 1 1 y20 (Z, I, L) r M')))))))))))))) : Lp_X7_isThere_16 g 2 o u2 u3 u4 u5 u6 (Z, I, L) r M' := by
  refine fr_iload (q := 5) rfl dX7_isThere_16 rfl ?_
  refine fr_aload_n (i := 0) (q := 0) rfl dX7_isThere_18 rfl ?_
  refine fr_getR dX7_isThere_19 rfl fl_X7_16 k_o r_o_texts ?_
  obtain ⟨v1, hc2, h⟩ := h
  refine fr_callV2 (ν := mu_X2_size) (st2 := [.int v1, .int u6]) (As := []) (st := [.int u6]) (v := (some (.int v1))) (M1 := (Z, I, L)) dX7_isThere_22 rfl ml_X7_56 mo_X2_size mi_X2_size (ci := 2) rfl rfl k_o_texts (Nat.le_of_ble_eq_true rfl) rfl rfl (Nat.le_of_ble_eq_true rfl) hc2 rfl ?_
  refine fr_icmp_ge (tgt := 84) dX7_isThere_25 (by decide) rfl (fun hc => ?_) (fun hc => ?_)
  · have h := h.1 hc
    refine fr_aload_n (i := 0) (q := 0) rfl dX7_isThere_84 rfl ?_
    refine fr_getI dX7_isThere_85 rfl fl_X7_37 k_o ?_
    refine fr_iconst (v := (-1)) (by decide) dX7_isThere_88 rfl ?_
    refine fr_icmp_ne (tgt := 105) dX7_isThere_89 (by decide) rfl (fun hc => ?_) (fun hc => ?_)
    · have h := h.1 hc
      refine fr_iload (q := 3) rfl dX7_isThere_105 rfl ?_
      exact fr_zret h.1 rfl dX7_isThere_107 h.2.1 h.2.2
    · have h := h.2 hc
      refine fr_iload (q := 4) rfl dX7_isThere_92 rfl ?_
      refine fr_if_ne (tgt := 101) dX7_isThere_94 (by decide) rfl (fun hc => ?_) (fun hc => ?_)
      · have h := h.1 hc
        refine fr_iconst (v := 0) (by decide) dX7_isThere_101 rfl ?_
        refine fr_goto (n := 107) dX7_isThere_102 (by decide) ?_
        exact fr_zret (by decide) rfl dX7_isThere_107 h.1 h.2
      · have h := h.2 hc
        refine fr_iconst (v := 1) (by decide) dX7_isThere_97 rfl ?_
        refine fr_goto (n := 107) dX7_isThere_98 (by decide) ?_
        exact fr_zret (by decide) rfl dX7_isThere_107 h.1 h.2
  · have h := h.2 hc
    refine fr_iload (q := 3) rfl dX7_isThere_28 rfl ?_
    refine fr_if_eq (tgt := 50) dX7_isThere_30 (by decide) rfl (fun hc => ?_) (fun hc => ?_)
    · have h := h.1 hc
      refine fr_iconst (v := 0) (by decide) dX7_isThere_50 rfl ?_
      refine fr_istore (lv' := [(4, .int 0), (0, rf g o), (2, .int u2), (3, .int u3), (5, .int u5), (6, .int u6)]) dX7_isThere_51 rfl (by decide) rfl ?_
      refine fr_iload (q := 4) rfl dX7_isThere_53 rfl ?_
      refine fr_if_eq (tgt := 70) dX7_isThere_55 (by decide) rfl (fun hc => ?_) (fun hc => ?_)
      · have h := h.1 hc
        refine fr_iconst (v := 0) (by decide) dX7_isThere_70 rfl ?_
        refine fr_istore (lv' := [(5, .int 0), (4, .int 0), (0, rf g o), (2, .int u2), (3, .int u3), (6, .int u6)]) dX7_isThere_71 rfl (by decide) rfl ?_
        refine fr_iload_n (i := 2) (q := 3) rfl dX7_isThere_73 rfl ?_
        refine fr_bipush (v := 100) (by decide) dX7_isThere_74 rfl ?_
        refine fr_idiv (by decide) dX7_isThere_76 rfl ?_
        refine fr_topi (fun y3 hy3 => ?_)
        have h := h y3 hy3
        refine fr_istore_n (i := 2) (lv' := [(2, .int y3), (5, .int 0), (4, .int 0), (0, rf g o), (3, .int u3), (6, .int u6)]) dX7_isThere_77 rfl (by decide) rfl ?_
        obtain ⟨y4, hy4⟩ : ∃ y : Int32, y = u6 + 1 := ⟨_, rfl⟩
        have h := h y4 hy4
        refine fr_iinc (q := 5) (v := y4) (lv' := [(6, .int y4), (2, .int y3), (5, .int 0), (4, .int 0), (0, rf g o), (3, .int u3)]) rfl (by rw [hy4]; rfl) dX7_isThere_78 rfl (by decide) rfl ?_
        refine fr_goto (n := 16) dX7_isThere_81 (by decide) ?_
        exact fr_sub [4, 1, 5, 3, 2, 0] rfl h
      · have h := h.2 hc
        refine fr_iload_n (i := 2) (q := 2) rfl dX7_isThere_58 rfl ?_
        refine fr_bipush (v := 100) (by decide) dX7_isThere_59 rfl ?_
        refine fr_irem (by decide) dX7_isThere_61 rfl ?_
        refine fr_iload_n (i := 3) (q := 3) rfl dX7_isThere_62 rfl ?_
        refine fr_icmp_ne (tgt := 70) dX7_isThere_63 (by decide) rfl (fun hc => ?_) (fun hc => ?_)
        · have h := h.1 hc
          refine fr_iconst (v := 0) (by decide) dX7_isThere_70 rfl ?_
          refine fr_istore (lv' := [(5, .int 0), (4, .int 0), (0, rf g o), (2, .int u2), (3, .int u3), (6, .int u6)]) dX7_isThere_71 rfl (by decide) rfl ?_
          refine fr_iload_n (i := 2) (q := 3) rfl dX7_isThere_73 rfl ?_
          refine fr_bipush (v := 100) (by decide) dX7_isThere_74 rfl ?_
          refine fr_idiv (by decide) dX7_isThere_76 rfl ?_
          refine fr_topi (fun y5 hy5 => ?_)
          have h := h y5 hy5
          refine fr_istore_n (i := 2) (lv' := [(2, .int y5), (5, .int 0), (4, .int 0), (0, rf g o), (3, .int u3), (6, .int u6)]) dX7_isThere_77 rfl (by decide) rfl ?_
          obtain ⟨y6, hy6⟩ : ∃ y : Int32, y = u6 + 1 := ⟨_, rfl⟩
          have h := h y6 hy6
          refine fr_iinc (q := 5) (v := y6) (lv' := [(6, .int y6), (2, .int y5), (5, .int 0), (4, .int 0), (0, rf g o), (3, .int u3)]) rfl (by rw [hy6]; rfl) dX7_isThere_78 rfl (by decide) rfl ?_
          refine fr_goto (n := 16) dX7_isThere_81 (by decide) ?_
          exact fr_sub [4, 1, 5, 3, 2, 0] rfl h
        · have h := h.2 hc
          refine fr_iconst (v := 1) (by decide) dX7_isThere_66 rfl ?_
          refine fr_goto (n := 71) dX7_isThere_67 (by decide) ?_
          refine fr_istore (lv' := [(5, .int 1), (4, .int 0), (0, rf g o), (2, .int u2), (3, .int u3), (6, .int u6)]) dX7_isThere_71 rfl (by decide) rfl ?_
          refine fr_iload_n (i := 2) (q := 3) rfl dX7_isThere_73 rfl ?_
          refine fr_bipush (v := 100) (by decide) dX7_isThere_74 rfl ?_
          refine fr_idiv (by decide) dX7_isThere_76 rfl ?_
          refine fr_topi (fun y7 hy7 => ?_)
          have h := h y7 hy7
          refine fr_istore_n (i := 2) (lv' := [(2, .int y7), (5, .int 1), (4, .int 0), (0, rf g o), (3, .int u3), (6, .int u6)]) dX7_isThere_77 rfl (by decide) rfl ?_
          obtain ⟨y8, hy8⟩ : ∃ y : Int32, y = u6 + 1 := ⟨_, rfl⟩
          have h := h y8 hy8
          refine fr_iinc (q := 5) (v := y8) (lv' := [(6, .int y8), (2, .int y7), (5, .int 1), (4, .int 0), (0, rf g o), (3, .int u3)]) rfl (by rw [hy8]; rfl) dX7_isThere_78 rfl (by decide) rfl ?_
          refine fr_goto (n := 16) dX7_isThere_81 (by decide) ?_
          exact fr_sub [4, 1, 5, 3, 2, 0] rfl h
    · have h := h.2 hc
      refine fr_iload_n (i := 2) (q := 1) rfl dX7_isThere_33 rfl ?_
      refine fr_bipush (v := 100) (by decide) dX7_isThere_34 rfl ?_
      refine fr_irem (by decide) dX7_isThere_36 rfl ?_
      refine fr_iconst (v := 4) (by decide) dX7_isThere_37 rfl ?_
      refine fr_idiv (by decide) dX7_isThere_38 rfl ?_
      refine fr_aload_n (i := 0) (q := 0) rfl dX7_isThere_39 rfl ?_
      refine fr_getI dX7_isThere_40 rfl fl_X7_37 k_o ?_
      refine fr_icmp_ne (tgt := 50) dX7_isThere_43 (by decide) rfl (fun hc => ?_) (fun hc => ?_)
      · have h := h.1 hc
        refine fr_iconst (v := 0) (by decide) dX7_isThere_50 rfl ?_
        refine fr_istore (lv' := [(4, .int 0), (0, rf g o), (2, .int u2), (3, .int u3), (5, .int u5), (6, .int u6)]) dX7_isThere_51 rfl (by decide) rfl ?_
        refine fr_iload (q := 4) rfl dX7_isThere_53 rfl ?_
        refine fr_if_eq (tgt := 70) dX7_isThere_55 (by decide) rfl (fun hc => ?_) (fun hc => ?_)
        · have h := h.1 hc
          refine fr_iconst (v := 0) (by decide) dX7_isThere_70 rfl ?_
          refine fr_istore (lv' := [(5, .int 0), (4, .int 0), (0, rf g o), (2, .int u2), (3, .int u3), (6, .int u6)]) dX7_isThere_71 rfl (by decide) rfl ?_
          refine fr_iload_n (i := 2) (q := 3) rfl dX7_isThere_73 rfl ?_
          refine fr_bipush (v := 100) (by decide) dX7_isThere_74 rfl ?_
          refine fr_idiv (by decide) dX7_isThere_76 rfl ?_
          refine fr_topi (fun y9 hy9 => ?_)
          have h := h y9 hy9
          refine fr_istore_n (i := 2) (lv' := [(2, .int y9), (5, .int 0), (4, .int 0), (0, rf g o), (3, .int u3), (6, .int u6)]) dX7_isThere_77 rfl (by decide) rfl ?_
          obtain ⟨y10, hy10⟩ : ∃ y : Int32, y = u6 + 1 := ⟨_, rfl⟩
          have h := h y10 hy10
          refine fr_iinc (q := 5) (v := y10) (lv' := [(6, .int y10), (2, .int y9), (5, .int 0), (4, .int 0), (0, rf g o), (3, .int u3)]) rfl (by rw [hy10]; rfl) dX7_isThere_78 rfl (by decide) rfl ?_
          refine fr_goto (n := 16) dX7_isThere_81 (by decide) ?_
          exact fr_sub [4, 1, 5, 3, 2, 0] rfl h
        · have h := h.2 hc
          refine fr_iload_n (i := 2) (q := 2) rfl dX7_isThere_58 rfl ?_
          refine fr_bipush (v := 100) (by decide) dX7_isThere_59 rfl ?_
          refine fr_irem (by decide) dX7_isThere_61 rfl ?_
          refine fr_iload_n (i := 3) (q := 3) rfl dX7_isThere_62 rfl ?_
          refine fr_icmp_ne (tgt := 70) dX7_isThere_63 (by decide) rfl (fun hc => ?_) (fun hc => ?_)
          · have h := h.1 hc
            refine fr_iconst (v := 0) (by decide) dX7_isThere_70 rfl ?_
            refine fr_istore (lv' := [(5, .int 0), (4, .int 0), (0, rf g o), (2, .int u2), (3, .int u3), (6, .int u6)]) dX7_isThere_71 rfl (by decide) rfl ?_
            refine fr_iload_n (i := 2) (q := 3) rfl dX7_isThere_73 rfl ?_
            refine fr_bipush (v := 100) (by decide) dX7_isThere_74 rfl ?_
            refine fr_idiv (by decide) dX7_isThere_76 rfl ?_
            refine fr_topi (fun y11 hy11 => ?_)
            have h := h y11 hy11
            refine fr_istore_n (i := 2) (lv' := [(2, .int y11), (5, .int 0), (4, .int 0), (0, rf g o), (3, .int u3), (6, .int u6)]) dX7_isThere_77 rfl (by decide) rfl ?_
            obtain ⟨y12, hy12⟩ : ∃ y : Int32, y = u6 + 1 := ⟨_, rfl⟩
            have h := h y12 hy12
            refine fr_iinc (q := 5) (v := y12) (lv' := [(6, .int y12), (2, .int y11), (5, .int 0), (4, .int 0), (0, rf g o), (3, .int u3)]) rfl (by rw [hy12]; rfl) dX7_isThere_78 rfl (by decide) rfl ?_
            refine fr_goto (n := 16) dX7_isThere_81 (by decide) ?_
            exact fr_sub [4, 1, 5, 3, 2, 0] rfl h
          · have h := h.2 hc
            refine fr_iconst (v := 1) (by decide) dX7_isThere_66 rfl ?_
            refine fr_goto (n := 71) dX7_isThere_67 (by decide) ?_
            refine fr_istore (lv' := [(5, .int 1), (4, .int 0), (0, rf g o), (2, .int u2), (3, .int u3), (6, .int u6)]) dX7_isThere_71 rfl (by decide) rfl ?_
            refine fr_iload_n (i := 2) (q := 3) rfl dX7_isThere_73 rfl ?_
            refine fr_bipush (v := 100) (by decide) dX7_isThere_74 rfl ?_
            refine fr_idiv (by decide) dX7_isThere_76 rfl ?_
            refine fr_topi (fun y13 hy13 => ?_)
            have h := h y13 hy13
            refine fr_istore_n (i := 2) (lv' := [(2, .int y13), (5, .int 1), (4, .int 0), (0, rf g o), (3, .int u3), (6, .int u6)]) dX7_isThere_77 rfl (by decide) rfl ?_
            obtain ⟨y14, hy14⟩ : ∃ y : Int32, y = u6 + 1 := ⟨_, rfl⟩
            have h := h y14 hy14
            refine fr_iinc (q := 5) (v := y14) (lv' := [(6, .int y14), (2, .int y13), (5, .int 1), (4, .int 0), (0, rf g o), (3, .int u3)]) rfl (by rw [hy14]; rfl) dX7_isThere_78 rfl (by decide) rfl ?_
            refine fr_goto (n := 16) dX7_isThere_81 (by decide) ?_
            exact fr_sub [4, 1, 5, 3, 2, 0] rfl h
      · have h := h.2 hc
        refine fr_iconst (v := 1) (by decide) dX7_isThere_46 rfl ?_
        refine fr_goto (n := 51) dX7_isThere_47 (by decide) ?_
        refine fr_istore (lv' := [(4, .int 1), (0, rf g o), (2, .int u2), (3, .int u3), (5, .int u5), (6, .int u6)]) dX7_isThere_51 rfl (by decide) rfl ?_
        refine fr_iload (q := 4) rfl dX7_isThere_53 rfl ?_
        refine fr_if_eq (tgt := 70) dX7_isThere_55 (by decide) rfl (fun hc => ?_) (fun hc => ?_)
        · have h := h.1 hc
          refine fr_iconst (v := 0) (by decide) dX7_isThere_70 rfl ?_
          refine fr_istore (lv' := [(5, .int 0), (4, .int 1), (0, rf g o), (2, .int u2), (3, .int u3), (6, .int u6)]) dX7_isThere_71 rfl (by decide) rfl ?_
          refine fr_iload_n (i := 2) (q := 3) rfl dX7_isThere_73 rfl ?_
          refine fr_bipush (v := 100) (by decide) dX7_isThere_74 rfl ?_
          refine fr_idiv (by decide) dX7_isThere_76 rfl ?_
          refine fr_topi (fun y15 hy15 => ?_)
          have h := h y15 hy15
          refine fr_istore_n (i := 2) (lv' := [(2, .int y15), (5, .int 0), (4, .int 1), (0, rf g o), (3, .int u3), (6, .int u6)]) dX7_isThere_77 rfl (by decide) rfl ?_
          obtain ⟨y16, hy16⟩ : ∃ y : Int32, y = u6 + 1 := ⟨_, rfl⟩
          have h := h y16 hy16
          refine fr_iinc (q := 5) (v := y16) (lv' := [(6, .int y16), (2, .int y15), (5, .int 0), (4, .int 1), (0, rf g o), (3, .int u3)]) rfl (by rw [hy16]; rfl) dX7_isThere_78 rfl (by decide) rfl ?_
          refine fr_goto (n := 16) dX7_isThere_81 (by decide) ?_
          exact fr_sub [4, 1, 5, 3, 2, 0] rfl h
        · have h := h.2 hc
          refine fr_iload_n (i := 2) (q := 2) rfl dX7_isThere_58 rfl ?_
          refine fr_bipush (v := 100) (by decide) dX7_isThere_59 rfl ?_
          refine fr_irem (by decide) dX7_isThere_61 rfl ?_
          refine fr_iload_n (i := 3) (q := 3) rfl dX7_isThere_62 rfl ?_
          refine fr_icmp_ne (tgt := 70) dX7_isThere_63 (by decide) rfl (fun hc => ?_) (fun hc => ?_)
          · have h := h.1 hc
            refine fr_iconst (v := 0) (by decide) dX7_isThere_70 rfl ?_
            refine fr_istore (lv' := [(5, .int 0), (4, .int 1), (0, rf g o), (2, .int u2), (3, .int u3), (6, .int u6)]) dX7_isThere_71 rfl (by decide) rfl ?_
            refine fr_iload_n (i := 2) (q := 3) rfl dX7_isThere_73 rfl ?_
            refine fr_bipush (v := 100) (by decide) dX7_isThere_74 rfl ?_
            refine fr_idiv (by decide) dX7_isThere_76 rfl ?_
            refine fr_topi (fun y17 hy17 => ?_)
            have h := h y17 hy17
            refine fr_istore_n (i := 2) (lv' := [(2, .int y17), (5, .int 0), (4, .int 1), (0, rf g o), (3, .int u3), (6, .int u6)]) dX7_isThere_77 rfl (by decide) rfl ?_
            obtain ⟨y18, hy18⟩ : ∃ y : Int32, y = u6 + 1 := ⟨_, rfl⟩
            have h := h y18 hy18
            refine fr_iinc (q := 5) (v := y18) (lv' := [(6, .int y18), (2, .int y17), (5, .int 0), (4, .int 1), (0, rf g o), (3, .int u3)]) rfl (by rw [hy18]; rfl) dX7_isThere_78 rfl (by decide) rfl ?_
            refine fr_goto (n := 16) dX7_isThere_81 (by decide) ?_
            exact fr_sub [4, 1, 5, 3, 2, 0] rfl h
          · have h := h.2 hc
            refine fr_iconst (v := 1) (by decide) dX7_isThere_66 rfl ?_
            refine fr_goto (n := 71) dX7_isThere_67 (by decide) ?_
            refine fr_istore (lv' := [(5, .int 1), (4, .int 1), (0, rf g o), (2, .int u2), (3, .int u3), (6, .int u6)]) dX7_isThere_71 rfl (by decide) rfl ?_
            refine fr_iload_n (i := 2) (q := 3) rfl dX7_isThere_73 rfl ?_
            refine fr_bipush (v := 100) (by decide) dX7_isThere_74 rfl ?_
            refine fr_idiv (by decide) dX7_isThere_76 rfl ?_
            refine fr_topi (fun y19 hy19 => ?_)
            have h := h y19 hy19
            refine fr_istore_n (i := 2) (lv' := [(2, .int y19), (5, .int 1), (4, .int 1), (0, rf g o), (3, .int u3), (6, .int u6)]) dX7_isThere_77 rfl (by decide) rfl ?_
            obtain ⟨y20, hy20⟩ : ∃ y : Int32, y = u6 + 1 := ⟨_, rfl⟩
            have h := h y20 hy20
            refine fr_iinc (q := 5) (v := y20) (lv' := [(6, .int y20), (2, .int y19), (5, .int 1), (4, .int 1), (0, rf g o), (3, .int u3)]) rfl (by rw [hy20]; rfl) dX7_isThere_78 rfl (by decide) rfl ?_
            refine fr_goto (n := 16) dX7_isThere_81 (by decide) ?_
            exact fr_sub [4, 1, 5, 3, 2, 0] rfl h
abbrev Lp_X7_slotOf_10 (g : GE) (d : Nat) (o : Nat) (u1 : Int32) (u2 : Int32) (u3 : Int32) (M : Mem) (r : Option Value) (M' : Mem) : Prop := Fr g d mu_X7_slotOf 10 [(0, rf g o), (1, .int u1), (2, .int u2), (3, .int u3)] [] M r M'
theorem cp_X7_slotOf {g : GE} {Z : Zs} {I : Nat → Nat → Int32} {L : Nat → Nat → Int64} {r : Option Value} {M' : Mem} {o : Nat} {x1 : Int32} (k_o : KM Z o 7) (h : (∀ y1 : Int32, y1 = (((x1 * ((-1640531535))).toUInt32 >>> ((19 : Int32).toUInt32 &&& Int32.toUInt32 31)).toInt32) → Lp_X7_slotOf_10 g 1 o x1 y1 0 (Z, I, L) r M')) : Cl g 1 mu_X7_slotOf [rf g o, .int x1] (Z, I, L) r M' := by
  refine cl_of (lv := [(0, rf g o), (1, .int x1)]) (by decide) (Nat.le_of_ble_eq_true rfl) rfl ?_
  refine fr_iload_n (i := 1) (q := 1) rfl dX7_slotOf_0 rfl ?_
  refine fr_ldc (v := (-1640531535)) kc_X7_91 dX7_slotOf_1 rfl ?_
  refine fr_imul dX7_slotOf_3 rfl ?_
  refine fr_bipush (v := 19) (by decide) dX7_slotOf_4 rfl ?_
  refine fr_iushr dX7_slotOf_6 rfl ?_
  refine fr_topi (fun y1 hy1 => ?_)
  have h := h y1 hy1
  refine fr_istore_n (i := 2) (lv' := [(2, .int y1), (0, rf g o), (1, .int x1)]) dX7_slotOf_7 rfl (by decide) rfl ?_
  refine fr_iconst (v := 0) (by decide) dX7_slotOf_8 rfl ?_
  refine fr_istore_n (i := 3) (lv' := [(3, .int 0), (2, .int y1), (0, rf g o), (1, .int x1)]) dX7_slotOf_9 rfl (by decide) rfl ?_
  exact fr_sub [2, 3, 1, 0] rfl h
theorem wp_X7_slotOf_10 {g : GE} {Z : Zs} {I : Nat → Nat → Int32} {L : Nat → Nat → Int64} {r : Option Value} {M' : Mem} {o : Nat} {u1 : Int32} {u2 : Int32} {u3 : Int32} {o_slots : Nat} {o_rows : Nat} (k_o : KM Z o 7) (r_o_slots : Z.2.1 o 5 = some o_slots) (k_o_slots : KM Z o_slots 13) (r_o_rows : Z.2.1 o 2 = some o_rows) (k_o_rows : KM Z o_rows 13) (h : ((8192 ≤ u3 → (r = some (.int u2) ∧ M' = (Z, I, L))) ∧ (¬ 8192 ≤ u3 → (vp_in u2 (Z.2.2.1 o_slots) ∧ (((I o_slots u2.toNatClampNeg) = 0 → (r = some (.int u2) ∧ M' = (Z, I, L))) ∧ (¬ (I o_slots u2.toNatClampNeg) = 0 → (vp_in u2 (Z.2.2.1 o_slots) ∧ (vp_in ((I o_slots u2.toNatClampNeg) - 1) (Z.2.2.1 o_rows) ∧ (((I o_rows ((I o_slots u2.toNatClampNeg) - 1).toNatClampNeg) = u1 → (r = some (.int u2) ∧ M' = (Z, I, L))) ∧ (¬ (I o_rows ((I o_slots u2.toNatClampNeg) - 1).toNatClampNeg) = u1 → (∀ y4 : Int32, y4 = ((u2 + 1) - (u2 + 1) / 8192 * 8192) → (∀ y5 : Int32, y5 = (u3 + 1) → Lp_X7_slotOf_10 g 1 o u1 y4 y5 (Z, I, L) r M')))))))))))) : Lp_X7_slotOf_10 g 1 o u1 u2 u3 (Z, I, L) r M' := by
  refine fr_iload_n (i := 3) (q := 3) rfl dX7_slotOf_10 rfl ?_
  refine fr_sipush (v := 8192) (by decide) dX7_slotOf_11 rfl ?_
  refine fr_icmp_ge (tgt := 57) dX7_slotOf_14 (by decide) rfl (fun hc => ?_) (fun hc => ?_)
  · have h := h.1 hc
    refine fr_iload_n (i := 2) (q := 2) rfl dX7_slotOf_57 rfl ?_
    exact fr_iret rfl dX7_slotOf_58 h.1 h.2
  · have h := h.2 hc
    refine fr_aload_n (i := 0) (q := 0) rfl dX7_slotOf_17 rfl ?_
    refine fr_getR dX7_slotOf_18 rfl fl_X7_30 k_o r_o_slots ?_
    refine fr_iload_n (i := 2) (q := 2) rfl dX7_slotOf_21 rfl ?_
    obtain ⟨hz1, h⟩ := h
    refine fr_iald dX7_slotOf_22 rfl k_o_slots hz1 ?_
    refine fr_if_eq (tgt := 57) dX7_slotOf_23 (by decide) rfl (fun hc => ?_) (fun hc => ?_)
    · have h := h.1 hc
      refine fr_iload_n (i := 2) (q := 2) rfl dX7_slotOf_57 rfl ?_
      exact fr_iret rfl dX7_slotOf_58 h.1 h.2
    · have h := h.2 hc
      refine fr_aload_n (i := 0) (q := 0) rfl dX7_slotOf_26 rfl ?_
      refine fr_getR dX7_slotOf_27 rfl fl_X7_20 k_o r_o_rows ?_
      refine fr_aload_n (i := 0) (q := 0) rfl dX7_slotOf_30 rfl ?_
      refine fr_getR dX7_slotOf_31 rfl fl_X7_30 k_o r_o_slots ?_
      refine fr_iload_n (i := 2) (q := 2) rfl dX7_slotOf_34 rfl ?_
      obtain ⟨hz2, h⟩ := h
      refine fr_iald dX7_slotOf_35 rfl k_o_slots hz2 ?_
      refine fr_iconst (v := 1) (by decide) dX7_slotOf_36 rfl ?_
      refine fr_isub dX7_slotOf_37 rfl ?_
      obtain ⟨hz3, h⟩ := h
      refine fr_iald dX7_slotOf_38 rfl k_o_rows hz3 ?_
      refine fr_iload_n (i := 1) (q := 1) rfl dX7_slotOf_39 rfl ?_
      refine fr_icmp_eq (tgt := 57) dX7_slotOf_40 (by decide) rfl (fun hc => ?_) (fun hc => ?_)
      · have h := h.1 hc
        refine fr_iload_n (i := 2) (q := 2) rfl dX7_slotOf_57 rfl ?_
        exact fr_iret rfl dX7_slotOf_58 h.1 h.2
      · have h := h.2 hc
        refine fr_iload_n (i := 2) (q := 2) rfl dX7_slotOf_43 rfl ?_
        refine fr_iconst (v := 1) (by decide) dX7_slotOf_44 rfl ?_
        refine fr_iadd dX7_slotOf_45 rfl ?_
        refine fr_sipush (v := 8192) (by decide) dX7_slotOf_46 rfl ?_
        refine fr_irem (by decide) dX7_slotOf_49 rfl ?_
        refine fr_topi (fun y4 hy4 => ?_)
        have h := h y4 hy4
        refine fr_istore_n (i := 2) (lv' := [(2, .int y4), (0, rf g o), (1, .int u1), (3, .int u3)]) dX7_slotOf_50 rfl (by decide) rfl ?_
        obtain ⟨y5, hy5⟩ : ∃ y : Int32, y = u3 + 1 := ⟨_, rfl⟩
        have h := h y5 hy5
        refine fr_iinc (q := 3) (v := y5) (lv' := [(3, .int y5), (2, .int y4), (0, rf g o), (1, .int u1)]) rfl (by rw [hy5]; rfl) dX7_slotOf_51 rfl (by decide) rfl ?_
        refine fr_goto (n := 10) dX7_slotOf_54 (by decide) ?_
        exact fr_sub [2, 3, 1, 0] rfl h
theorem cp_X7_keep {g : GE} {Z : Zs} {I : Nat → Nat → Int32} {L : Nat → Nat → Int64} {r : Option Value} {M' : Mem} {o : Nat} {x1 : Int32} {x2 : Int32} {x3 : Int32} {x4 : Int32} {o_rows : Nat} {o_before : Nat} {o_tapTo : Nat} {o_slots : Nat} (k_o : KM Z o 7) (r_o_rows : Z.2.1 o 2 = some o_rows) (k_o_rows : KM Z o_rows 13) (r_o_before : Z.2.1 o 3 = some o_before) (k_o_before : KM Z o_before 13) (r_o_tapTo : Z.2.1 o 4 = some o_tapTo) (k_o_tapTo : KM Z o_tapTo 13) (r_o_slots : Z.2.1 o 5 = some o_slots) (k_o_slots : KM Z o_slots 13) (h : ((3001 ≤ (I o 6) → (r = none ∧ M' = (Z, I, L))) ∧ (¬ 3001 ≤ (I o 6) → (vp_in (I o 6) (Z.2.2.1 o_rows) ∧ (∀ I2 : Nat → Nat → Int32, I2 = rw1 I o_rows (upd (I o_rows) (I o 6).toNatClampNeg x1) → (vp_in (I2 o 6) (Z.2.2.1 o_before) ∧ (∀ I4 : Nat → Nat → Int32, I4 = rw1 I2 o_before (upd (I2 o_before) (I2 o 6).toNatClampNeg x3) → (vp_in (I4 o 6) (Z.2.2.1 o_tapTo) ∧ (∀ I6 : Nat → Nat → Int32, I6 = rw1 I4 o_tapTo (upd (I4 o_tapTo) (I4 o 6).toNatClampNeg x4) → (∀ I7 : Nat → Nat → Int32, I7 = rw1 I6 o (upd (I6 o) 6 ((I6 o 6) + 1)) → (vp_in x2 (Z.2.2.1 o_slots) ∧ (∀ I9 : Nat → Nat → Int32, I9 = rw1 I7 o_slots (upd (I7 o_slots) x2.toNatClampNeg (I7 o 6)) → (r = none ∧ M' = (Z, I9, L)))))))))))))) : Cl g 1 mu_X7_keep [rf g o, .int x1, .int x2, .int x3, .int x4] (Z, I, L) r M' := by
  refine cl_of (lv := [(0, rf g o), (1, .int x1), (2, .int x2), (3, .int x3), (4, .int x4)]) (by decide) (Nat.le_of_ble_eq_true rfl) rfl ?_
  refine fr_aload_n (i := 0) (q := 0) rfl dX7_keep_0 rfl ?_
  refine fr_getI dX7_keep_1 rfl fl_X7_53 k_o ?_
  refine fr_sipush (v := 3001) (by decide) dX7_keep_4 rfl ?_
  refine fr_icmp_ge (tgt := 61) dX7_keep_7 (by decide) rfl (fun hc => ?_) (fun hc => ?_)
  · have h := h.1 hc
    exact fr_vret rfl dX7_keep_61 h.1 h.2
  · have h := h.2 hc
    refine fr_aload_n (i := 0) (q := 0) rfl dX7_keep_10 rfl ?_
    refine fr_getR dX7_keep_11 rfl fl_X7_20 k_o r_o_rows ?_
    refine fr_aload_n (i := 0) (q := 0) rfl dX7_keep_14 rfl ?_
    refine fr_getI dX7_keep_15 rfl fl_X7_53 k_o ?_
    refine fr_iload_n (i := 1) (q := 1) rfl dX7_keep_18 rfl ?_
    obtain ⟨hz1, h⟩ := h
    refine fr_iast dX7_keep_19 rfl k_o_rows hz1 ?_
    refine fr_memI (fun I2 hI2 => ?_)
    have h := h I2 hI2
    refine fr_aload_n (i := 0) (q := 0) rfl dX7_keep_20 rfl ?_
    refine fr_getR dX7_keep_21 rfl fl_X7_24 k_o r_o_before ?_
    refine fr_aload_n (i := 0) (q := 0) rfl dX7_keep_24 rfl ?_
    refine fr_getI dX7_keep_25 rfl fl_X7_53 k_o ?_
    refine fr_iload_n (i := 3) (q := 3) rfl dX7_keep_28 rfl ?_
    obtain ⟨hz3, h⟩ := h
    refine fr_iast dX7_keep_29 rfl k_o_before hz3 ?_
    refine fr_memI (fun I4 hI4 => ?_)
    have h := h I4 hI4
    refine fr_aload_n (i := 0) (q := 0) rfl dX7_keep_30 rfl ?_
    refine fr_getR dX7_keep_31 rfl fl_X7_27 k_o r_o_tapTo ?_
    refine fr_aload_n (i := 0) (q := 0) rfl dX7_keep_34 rfl ?_
    refine fr_getI dX7_keep_35 rfl fl_X7_53 k_o ?_
    refine fr_iload (q := 4) rfl dX7_keep_38 rfl ?_
    obtain ⟨hz5, h⟩ := h
    refine fr_iast dX7_keep_40 rfl k_o_tapTo hz5 ?_
    refine fr_memI (fun I6 hI6 => ?_)
    have h := h I6 hI6
    refine fr_aload_n (i := 0) (q := 0) rfl dX7_keep_41 rfl ?_
    refine fr_dup rfl dX7_keep_42 rfl ?_
    refine fr_getI dX7_keep_43 rfl fl_X7_53 k_o ?_
    refine fr_iconst (v := 1) (by decide) dX7_keep_46 rfl ?_
    refine fr_iadd dX7_keep_47 rfl ?_
    refine fr_putI dX7_keep_48 rfl fp_X7_53 k_o ?_
    refine fr_memI (fun I7 hI7 => ?_)
    have h := h I7 hI7
    refine fr_aload_n (i := 0) (q := 0) rfl dX7_keep_51 rfl ?_
    refine fr_getR dX7_keep_52 rfl fl_X7_30 k_o r_o_slots ?_
    refine fr_iload_n (i := 2) (q := 2) rfl dX7_keep_55 rfl ?_
    refine fr_aload_n (i := 0) (q := 0) rfl dX7_keep_56 rfl ?_
    refine fr_getI dX7_keep_57 rfl fl_X7_53 k_o ?_
    obtain ⟨hz8, h⟩ := h
    refine fr_iast dX7_keep_60 rfl k_o_slots hz8 ?_
    refine fr_memI (fun I9 hI9 => ?_)
    have h := h I9 hI9
    exact fr_vret rfl dX7_keep_61 h.1 h.2
abbrev Lp_X10_carrierOf_75 (g : GE) (d : Nat) (o : Nat) (u1 : Int32) (u2 : Int32) (u4 : Int32) (M : Mem) (r : Option Value) (M' : Mem) : Prop := Fr g d mu_X10_carrierOf 75 [(0, rf g o), (1, .int u1), (2, .int u2), (4, .int u4)] [] M r M'
theorem cp_X10_carrierOf {g : GE} {Z : Zs} {I : Nat → Nat → Int32} {L : Nat → Nat → Int64} {r : Option Value} {M' : Mem} {o : Nat} {x1 : Int32} {x2 : Int32} {a3 : Nat} {o_state : Nat} {o_state_paces : Nat} {o_state_sights : Nat} (k_o : KM Z o 10) (k_a3 : KM Z a3 6) (r_o_state : Z.2.1 o 0 = some o_state) (k_o_state : KM Z o_state 8) (r_o_state_paces : Z.2.1 o_state 12 = some o_state_paces) (k_o_state_paces : KM Z o_state_paces 2) (r_o_state_sights : Z.2.1 o_state 11 = some o_state_sights) (k_o_state_sights : KM Z o_state_sights 2) (h : ((¬ x2 = 0 → (∃ (v1 : Int32), Cl g 1 mu_X2_size [rf g o_state_paces] (Z, I, L) (some (.int v1)) (Z, I, L) ∧ (∀ I3 : Nat → Nat → Int32, I3 = rw1 I o (upd (I o) 7 v1) → ((¬ x2 = 0 → (∃ (v4 : Int32), Cl g 1 mu_X2_size [rf g o_state_sights] (Z, I3, L) (some (.int v4)) (Z, I3, L) ∧ (∀ I6 : Nat → Nat → Int32, I6 = rw1 I3 o (upd (I3 o) 8 v4) → (∃ (I7 : Nat → Nat → Int32) (L8 : Nat → Nat → Int64), Cl g 2 mu_X10_begin [rf g o] (Z, I6, L) none (Z, I7, L8) ∧ (∃ (I10 : Nat → Nat → Int32) (L11 : Nat → Nat → Int64), Cl g 5 mu_X10_learn [rf g o, .int x2, rf g a3] (Z, I7, L8) none (Z, I10, L11) ∧ Lp_X10_carrierOf_75 g 6 o x1 x2 0 (Z, I10, L11) r M'))))) ∧ (x2 = 0 → (∃ (v13 : Int32), Cl g 1 mu_X2_size [rf g o_state_paces] (Z, I3, L) (some (.int v13)) (Z, I3, L) ∧ (∀ I15 : Nat → Nat → Int32, I15 = rw1 I3 o (upd (I3 o) 8 v13) → (∃ (I16 : Nat → Nat → Int32) (L17 : Nat → Nat → Int64), Cl g 2 mu_X10_begin [rf g o] (Z, I15, L) none (Z, I16, L17) ∧ (∃ (I19 : Nat → Nat → Int32) (L20 : Nat → Nat → Int64), Cl g 5 mu_X10_learn [rf g o, .int x2, rf g a3] (Z, I16, L17) none (Z, I19, L20) ∧ Lp_X10_carrierOf_75 g 6 o x1 x2 0 (Z, I19, L20) r M'))))))))) ∧ (x2 = 0 → (∃ (v22 : Int32), Cl g 1 mu_X2_size [rf g o_state_sights] (Z, I, L) (some (.int v22)) (Z, I, L) ∧ (∀ I24 : Nat → Nat → Int32, I24 = rw1 I o (upd (I o) 7 v22) → ((¬ x2 = 0 → (∃ (v25 : Int32), Cl g 1 mu_X2_size [rf g o_state_sights] (Z, I24, L) (some (.int v25)) (Z, I24, L) ∧ (∀ I27 : Nat → Nat → Int32, I27 = rw1 I24 o (upd (I24 o) 8 v25) → (∃ (I28 : Nat → Nat → Int32) (L29 : Nat → Nat → Int64), Cl g 2 mu_X10_begin [rf g o] (Z, I27, L) none (Z, I28, L29) ∧ (∃ (I31 : Nat → Nat → Int32) (L32 : Nat → Nat → Int64), Cl g 5 mu_X10_learn [rf g o, .int x2, rf g a3] (Z, I28, L29) none (Z, I31, L32) ∧ Lp_X10_carrierOf_75 g 6 o x1 x2 0 (Z, I31, L32) r M'))))) ∧ (x2 = 0 → (∃ (v34 : Int32), Cl g 1 mu_X2_size [rf g o_state_paces] (Z, I24, L) (some (.int v34)) (Z, I24, L) ∧ (∀ I36 : Nat → Nat → Int32, I36 = rw1 I24 o (upd (I24 o) 8 v34) → (∃ (I37 : Nat → Nat → Int32) (L38 : Nat → Nat → Int64), Cl g 2 mu_X10_begin [rf g o] (Z, I36, L) none (Z, I37, L38) ∧ (∃ (I40 : Nat → Nat → Int32) (L41 : Nat → Nat → Int64), Cl g 5 mu_X10_learn [rf g o, .int x2, rf g a3] (Z, I37, L38) none (Z, I40, L41) ∧ Lp_X10_carrierOf_75 g 6 o x1 x2 0 (Z, I40, L41) r M'))))))))))) : Cl g 6 mu_X10_carrierOf [rf g o, .int x1, .int x2, rf g a3] (Z, I, L) r M' := by
  refine cl_of (lv := [(0, rf g o), (1, .int x1), (2, .int x2), (3, rf g a3)]) (by decide) (Nat.le_of_ble_eq_true rfl) rfl ?_
  refine fr_aload_n (i := 0) (q := 0) rfl dX10_carrierOf_0 rfl ?_
  refine fr_iload_n (i := 2) (q := 2) rfl dX10_carrierOf_1 rfl ?_
  refine fr_if_ne (tgt := 18) dX10_carrierOf_2 (by decide) rfl (fun hc => ?_) (fun hc => ?_)
  · have h := h.1 hc
    refine fr_aload_n (i := 0) (q := 0) rfl dX10_carrierOf_18 rfl ?_
    refine fr_getR dX10_carrierOf_19 rfl fl_X10_28 k_o r_o_state ?_
    refine fr_getR dX10_carrierOf_22 rfl fl_X10_48 k_o_state r_o_state_paces ?_
    obtain ⟨v1, hc2, h⟩ := h
    refine fr_callV2 (ν := mu_X2_size) (st2 := [.int v1, rf g o]) (As := []) (st := [rf g o]) (v := (some (.int v1))) (M1 := (Z, I, L)) dX10_carrierOf_25 rfl ml_X10_42 mo_X2_size mi_X2_size (ci := 2) rfl rfl k_o_state_paces (Nat.le_of_ble_eq_true rfl) rfl rfl (Nat.le_of_ble_eq_true rfl) hc2 rfl ?_
    refine fr_putI dX10_carrierOf_28 rfl fp_X10_51 k_o ?_
    refine fr_memI (fun I3 hI3 => ?_)
    have h := h I3 hI3
    refine fr_aload_n (i := 0) (q := 0) rfl dX10_carrierOf_31 rfl ?_
    refine fr_iload_n (i := 2) (q := 2) rfl dX10_carrierOf_32 rfl ?_
    refine fr_if_ne (tgt := 49) dX10_carrierOf_33 (by decide) rfl (fun hc => ?_) (fun hc => ?_)
    · have h := h.1 hc
      refine fr_aload_n (i := 0) (q := 0) rfl dX10_carrierOf_49 rfl ?_
      refine fr_getR dX10_carrierOf_50 rfl fl_X10_28 k_o r_o_state ?_
      refine fr_getR dX10_carrierOf_53 rfl fl_X10_36 k_o_state r_o_state_sights ?_
      obtain ⟨v4, hc5, h⟩ := h
      refine fr_callV2 (ν := mu_X2_size) (st2 := [.int v4, rf g o]) (As := []) (st := [rf g o]) (v := (some (.int v4))) (M1 := (Z, I3, L)) dX10_carrierOf_56 rfl ml_X10_42 mo_X2_size mi_X2_size (ci := 2) rfl rfl k_o_state_sights (Nat.le_of_ble_eq_true rfl) rfl rfl (Nat.le_of_ble_eq_true rfl) hc5 rfl ?_
      refine fr_putI dX10_carrierOf_59 rfl fp_X10_55 k_o ?_
      refine fr_memI (fun I6 hI6 => ?_)
      have h := h I6 hI6
      refine fr_aload_n (i := 0) (q := 0) rfl dX10_carrierOf_62 rfl ?_
      obtain ⟨I7, L8, hc9, h⟩ := h
      refine fr_callV2 (ν := mu_X10_begin) (st2 := []) (As := []) (st := []) (v := none) (M1 := (Z, I7, L8)) dX10_carrierOf_63 rfl ml_X10_58 mo_X10_begin mi_X10_begin (ci := 10) rfl rfl k_o (Nat.le_of_ble_eq_true rfl) rfl rfl (Nat.le_of_ble_eq_true rfl) hc9 rfl ?_
      refine fr_aload_n (i := 0) (q := 0) rfl dX10_carrierOf_66 rfl ?_
      refine fr_iload_n (i := 2) (q := 2) rfl dX10_carrierOf_67 rfl ?_
      refine fr_aload_n (i := 3) (q := 3) rfl dX10_carrierOf_68 rfl ?_
      obtain ⟨I10, L11, hc12, h⟩ := h
      refine fr_callV2 (ν := mu_X10_learn) (st2 := []) (As := [.int x2, rf g a3]) (st := []) (v := none) (M1 := (Z, I10, L11)) dX10_carrierOf_69 rfl ml_X10_61 mo_X10_learn mi_X10_learn (ci := 10) rfl rfl k_o (Nat.le_of_ble_eq_true rfl) rfl rfl (Nat.le_of_ble_eq_true rfl) hc12 rfl ?_
      refine fr_iconst (v := 0) (by decide) dX10_carrierOf_72 rfl ?_
      refine fr_istore (lv' := [(4, .int 0), (0, rf g o), (1, .int x1), (2, .int x2), (3, rf g a3)]) dX10_carrierOf_73 rfl (by decide) rfl ?_
      exact fr_sub [1, 2, 3, 0] rfl h
    · have h := h.2 hc
      refine fr_aload_n (i := 0) (q := 0) rfl dX10_carrierOf_36 rfl ?_
      refine fr_getR dX10_carrierOf_37 rfl fl_X10_28 k_o r_o_state ?_
      refine fr_getR dX10_carrierOf_40 rfl fl_X10_48 k_o_state r_o_state_paces ?_
      obtain ⟨v13, hc14, h⟩ := h
      refine fr_callV2 (ν := mu_X2_size) (st2 := [.int v13, rf g o]) (As := []) (st := [rf g o]) (v := (some (.int v13))) (M1 := (Z, I3, L)) dX10_carrierOf_43 rfl ml_X10_42 mo_X2_size mi_X2_size (ci := 2) rfl rfl k_o_state_paces (Nat.le_of_ble_eq_true rfl) rfl rfl (Nat.le_of_ble_eq_true rfl) hc14 rfl ?_
      refine fr_goto (n := 59) dX10_carrierOf_46 (by decide) ?_
      refine fr_putI dX10_carrierOf_59 rfl fp_X10_55 k_o ?_
      refine fr_memI (fun I15 hI15 => ?_)
      have h := h I15 hI15
      refine fr_aload_n (i := 0) (q := 0) rfl dX10_carrierOf_62 rfl ?_
      obtain ⟨I16, L17, hc18, h⟩ := h
      refine fr_callV2 (ν := mu_X10_begin) (st2 := []) (As := []) (st := []) (v := none) (M1 := (Z, I16, L17)) dX10_carrierOf_63 rfl ml_X10_58 mo_X10_begin mi_X10_begin (ci := 10) rfl rfl k_o (Nat.le_of_ble_eq_true rfl) rfl rfl (Nat.le_of_ble_eq_true rfl) hc18 rfl ?_
      refine fr_aload_n (i := 0) (q := 0) rfl dX10_carrierOf_66 rfl ?_
      refine fr_iload_n (i := 2) (q := 2) rfl dX10_carrierOf_67 rfl ?_
      refine fr_aload_n (i := 3) (q := 3) rfl dX10_carrierOf_68 rfl ?_
      obtain ⟨I19, L20, hc21, h⟩ := h
      refine fr_callV2 (ν := mu_X10_learn) (st2 := []) (As := [.int x2, rf g a3]) (st := []) (v := none) (M1 := (Z, I19, L20)) dX10_carrierOf_69 rfl ml_X10_61 mo_X10_learn mi_X10_learn (ci := 10) rfl rfl k_o (Nat.le_of_ble_eq_true rfl) rfl rfl (Nat.le_of_ble_eq_true rfl) hc21 rfl ?_
      refine fr_iconst (v := 0) (by decide) dX10_carrierOf_72 rfl ?_
      refine fr_istore (lv' := [(4, .int 0), (0, rf g o), (1, .int x1), (2, .int x2), (3, rf g a3)]) dX10_carrierOf_73 rfl (by decide) rfl ?_
      exact fr_sub [1, 2, 3, 0] rfl h
  · have h := h.2 hc
    refine fr_aload_n (i := 0) (q := 0) rfl dX10_carrierOf_5 rfl ?_
    refine fr_getR dX10_carrierOf_6 rfl fl_X10_28 k_o r_o_state ?_
    refine fr_getR dX10_carrierOf_9 rfl fl_X10_36 k_o_state r_o_state_sights ?_
    obtain ⟨v22, hc23, h⟩ := h
    refine fr_callV2 (ν := mu_X2_size) (st2 := [.int v22, rf g o]) (As := []) (st := [rf g o]) (v := (some (.int v22))) (M1 := (Z, I, L)) dX10_carrierOf_12 rfl ml_X10_42 mo_X2_size mi_X2_size (ci := 2) rfl rfl k_o_state_sights (Nat.le_of_ble_eq_true rfl) rfl rfl (Nat.le_of_ble_eq_true rfl) hc23 rfl ?_
    refine fr_goto (n := 28) dX10_carrierOf_15 (by decide) ?_
    refine fr_putI dX10_carrierOf_28 rfl fp_X10_51 k_o ?_
    refine fr_memI (fun I24 hI24 => ?_)
    have h := h I24 hI24
    refine fr_aload_n (i := 0) (q := 0) rfl dX10_carrierOf_31 rfl ?_
    refine fr_iload_n (i := 2) (q := 2) rfl dX10_carrierOf_32 rfl ?_
    refine fr_if_ne (tgt := 49) dX10_carrierOf_33 (by decide) rfl (fun hc => ?_) (fun hc => ?_)
    · have h := h.1 hc
      refine fr_aload_n (i := 0) (q := 0) rfl dX10_carrierOf_49 rfl ?_
      refine fr_getR dX10_carrierOf_50 rfl fl_X10_28 k_o r_o_state ?_
      refine fr_getR dX10_carrierOf_53 rfl fl_X10_36 k_o_state r_o_state_sights ?_
      obtain ⟨v25, hc26, h⟩ := h
      refine fr_callV2 (ν := mu_X2_size) (st2 := [.int v25, rf g o]) (As := []) (st := [rf g o]) (v := (some (.int v25))) (M1 := (Z, I24, L)) dX10_carrierOf_56 rfl ml_X10_42 mo_X2_size mi_X2_size (ci := 2) rfl rfl k_o_state_sights (Nat.le_of_ble_eq_true rfl) rfl rfl (Nat.le_of_ble_eq_true rfl) hc26 rfl ?_
      refine fr_putI dX10_carrierOf_59 rfl fp_X10_55 k_o ?_
      refine fr_memI (fun I27 hI27 => ?_)
      have h := h I27 hI27
      refine fr_aload_n (i := 0) (q := 0) rfl dX10_carrierOf_62 rfl ?_
      obtain ⟨I28, L29, hc30, h⟩ := h
      refine fr_callV2 (ν := mu_X10_begin) (st2 := []) (As := []) (st := []) (v := none) (M1 := (Z, I28, L29)) dX10_carrierOf_63 rfl ml_X10_58 mo_X10_begin mi_X10_begin (ci := 10) rfl rfl k_o (Nat.le_of_ble_eq_true rfl) rfl rfl (Nat.le_of_ble_eq_true rfl) hc30 rfl ?_
      refine fr_aload_n (i := 0) (q := 0) rfl dX10_carrierOf_66 rfl ?_
      refine fr_iload_n (i := 2) (q := 2) rfl dX10_carrierOf_67 rfl ?_
      refine fr_aload_n (i := 3) (q := 3) rfl dX10_carrierOf_68 rfl ?_
      obtain ⟨I31, L32, hc33, h⟩ := h
      refine fr_callV2 (ν := mu_X10_learn) (st2 := []) (As := [.int x2, rf g a3]) (st := []) (v := none) (M1 := (Z, I31, L32)) dX10_carrierOf_69 rfl ml_X10_61 mo_X10_learn mi_X10_learn (ci := 10) rfl rfl k_o (Nat.le_of_ble_eq_true rfl) rfl rfl (Nat.le_of_ble_eq_true rfl) hc33 rfl ?_
      refine fr_iconst (v := 0) (by decide) dX10_carrierOf_72 rfl ?_
      refine fr_istore (lv' := [(4, .int 0), (0, rf g o), (1, .int x1), (2, .int x2), (3, rf g a3)]) dX10_carrierOf_73 rfl (by decide) rfl ?_
      exact fr_sub [1, 2, 3, 0] rfl h
    · have h := h.2 hc
      refine fr_aload_n (i := 0) (q := 0) rfl dX10_carrierOf_36 rfl ?_
      refine fr_getR dX10_carrierOf_37 rfl fl_X10_28 k_o r_o_state ?_
      refine fr_getR dX10_carrierOf_40 rfl fl_X10_48 k_o_state r_o_state_paces ?_
      obtain ⟨v34, hc35, h⟩ := h
      refine fr_callV2 (ν := mu_X2_size) (st2 := [.int v34, rf g o]) (As := []) (st := [rf g o]) (v := (some (.int v34))) (M1 := (Z, I24, L)) dX10_carrierOf_43 rfl ml_X10_42 mo_X2_size mi_X2_size (ci := 2) rfl rfl k_o_state_paces (Nat.le_of_ble_eq_true rfl) rfl rfl (Nat.le_of_ble_eq_true rfl) hc35 rfl ?_
      refine fr_goto (n := 59) dX10_carrierOf_46 (by decide) ?_
      refine fr_putI dX10_carrierOf_59 rfl fp_X10_55 k_o ?_
      refine fr_memI (fun I36 hI36 => ?_)
      have h := h I36 hI36
      refine fr_aload_n (i := 0) (q := 0) rfl dX10_carrierOf_62 rfl ?_
      obtain ⟨I37, L38, hc39, h⟩ := h
      refine fr_callV2 (ν := mu_X10_begin) (st2 := []) (As := []) (st := []) (v := none) (M1 := (Z, I37, L38)) dX10_carrierOf_63 rfl ml_X10_58 mo_X10_begin mi_X10_begin (ci := 10) rfl rfl k_o (Nat.le_of_ble_eq_true rfl) rfl rfl (Nat.le_of_ble_eq_true rfl) hc39 rfl ?_
      refine fr_aload_n (i := 0) (q := 0) rfl dX10_carrierOf_66 rfl ?_
      refine fr_iload_n (i := 2) (q := 2) rfl dX10_carrierOf_67 rfl ?_
      refine fr_aload_n (i := 3) (q := 3) rfl dX10_carrierOf_68 rfl ?_
      obtain ⟨I40, L41, hc42, h⟩ := h
      refine fr_callV2 (ν := mu_X10_learn) (st2 := []) (As := [.int x2, rf g a3]) (st := []) (v := none) (M1 := (Z, I40, L41)) dX10_carrierOf_69 rfl ml_X10_61 mo_X10_learn mi_X10_learn (ci := 10) rfl rfl k_o (Nat.le_of_ble_eq_true rfl) rfl rfl (Nat.le_of_ble_eq_true rfl) hc42 rfl ?_
      refine fr_iconst (v := 0) (by decide) dX10_carrierOf_72 rfl ?_
      refine fr_istore (lv' := [(4, .int 0), (0, rf g o), (1, .int x1), (2, .int x2), (3, rf g a3)]) dX10_carrierOf_73 rfl (by decide) rfl ?_
      exact fr_sub [1, 2, 3, 0] rfl h
theorem wp_X10_carrierOf_75 {g : GE} {Z : Zs} {I : Nat → Nat → Int32} {L : Nat → Nat → Int64} {r : Option Value} {M' : Mem} {o : Nat} {u1 : Int32} {u2 : Int32} {u4 : Int32} {o_keeps : Nat} {o_keptBy : Nat} (k_o : KM Z o 10) (r_o_keeps : Z.2.1 o 6 = some o_keeps) (k_o_keeps : KM Z o_keeps 13) (r_o_keptBy : Z.2.1 o 5 = some o_keptBy) (k_o_keptBy : KM Z o_keptBy 13) (h : ((36 ≤ u4 → ((u1 < 0 → (r = some (.int ((-1))) ∧ M' = (Z, I, L))) ∧ (¬ u1 < 0 → ((u1 < 6 → ((¬ u2 = 0 → (vp_in u1 (Z.2.2.1 o_keeps) ∧ (r = some (.int (I o_keeps u1.toNatClampNeg)) ∧ M' = (Z, I, L)))) ∧ (u2 = 0 → (vp_in u1 (Z.2.2.1 o_keptBy) ∧ (r = some (.int (I o_keptBy u1.toNatClampNeg)) ∧ M' = (Z, I, L)))))) ∧ (¬ u1 < 6 → (r = some (.int ((-1))) ∧ M' = (Z, I, L))))))) ∧ (¬ 36 ≤ u4 → (∃ (I3 : Nat → Nat → Int32) (L4 : Nat → Nat → Int64), Cl g 2 mu_X10_oneAsks [rf g o] (Z, I, L) none (Z, I3, L4) ∧ (∀ y6 : Int32, y6 = (u4 + 1) → Lp_X10_carrierOf_75 g 6 o u1 u2 y6 (Z, I3, L4) r M'))))) : Lp_X10_carrierOf_75 g 6 o u1 u2 u4 (Z, I, L) r M' := by
  refine fr_iload (q := 3) rfl dX10_carrierOf_75 rfl ?_
  refine fr_bipush (v := 36) (by decide) dX10_carrierOf_77 rfl ?_
  refine fr_icmp_ge (tgt := 92) dX10_carrierOf_79 (by decide) rfl (fun hc => ?_) (fun hc => ?_)
  · have h := h.1 hc
    refine fr_iload_n (i := 1) (q := 1) rfl dX10_carrierOf_92 rfl ?_
    refine fr_if_lt (tgt := 102) dX10_carrierOf_93 (by decide) rfl (fun hc => ?_) (fun hc => ?_)
    · have h := h.1 hc
      refine fr_iconst (v := (-1)) (by decide) dX10_carrierOf_102 rfl ?_
      exact fr_iret rfl dX10_carrierOf_103 h.1 h.2
    · have h := h.2 hc
      refine fr_iload_n (i := 1) (q := 1) rfl dX10_carrierOf_96 rfl ?_
      refine fr_bipush (v := 6) (by decide) dX10_carrierOf_97 rfl ?_
      refine fr_icmp_lt (tgt := 104) dX10_carrierOf_99 (by decide) rfl (fun hc => ?_) (fun hc => ?_)
      · have h := h.1 hc
        refine fr_iload_n (i := 2) (q := 2) rfl dX10_carrierOf_104 rfl ?_
        refine fr_if_ne (tgt := 117) dX10_carrierOf_105 (by decide) rfl (fun hc => ?_) (fun hc => ?_)
        · have h := h.1 hc
          refine fr_aload_n (i := 0) (q := 0) rfl dX10_carrierOf_117 rfl ?_
          refine fr_getR dX10_carrierOf_118 rfl fl_X10_25 k_o r_o_keeps ?_
          refine fr_iload_n (i := 1) (q := 1) rfl dX10_carrierOf_121 rfl ?_
          obtain ⟨hz1, h⟩ := h
          refine fr_iald dX10_carrierOf_122 rfl k_o_keeps hz1 ?_
          exact fr_iret rfl dX10_carrierOf_123 h.1 h.2
        · have h := h.2 hc
          refine fr_aload_n (i := 0) (q := 0) rfl dX10_carrierOf_108 rfl ?_
          refine fr_getR dX10_carrierOf_109 rfl fl_X10_22 k_o r_o_keptBy ?_
          refine fr_iload_n (i := 1) (q := 1) rfl dX10_carrierOf_112 rfl ?_
          obtain ⟨hz2, h⟩ := h
          refine fr_iald dX10_carrierOf_113 rfl k_o_keptBy hz2 ?_
          refine fr_goto (n := 123) dX10_carrierOf_114 (by decide) ?_
          exact fr_iret rfl dX10_carrierOf_123 h.1 h.2
      · have h := h.2 hc
        refine fr_iconst (v := (-1)) (by decide) dX10_carrierOf_102 rfl ?_
        exact fr_iret rfl dX10_carrierOf_103 h.1 h.2
  · have h := h.2 hc
    refine fr_aload_n (i := 0) (q := 0) rfl dX10_carrierOf_82 rfl ?_
    obtain ⟨I3, L4, hc5, h⟩ := h
    refine fr_callV2 (ν := mu_X10_oneAsks) (st2 := []) (As := []) (st := []) (v := none) (M1 := (Z, I3, L4)) dX10_carrierOf_83 rfl ml_X10_65 mo_X10_oneAsks mi_X10_oneAsks (ci := 10) rfl rfl k_o (Nat.le_of_ble_eq_true rfl) rfl rfl (Nat.le_of_ble_eq_true rfl) hc5 rfl ?_
    obtain ⟨y6, hy6⟩ : ∃ y : Int32, y = u4 + 1 := ⟨_, rfl⟩
    have h := h y6 hy6
    refine fr_iinc (q := 3) (v := y6) (lv' := [(4, .int y6), (0, rf g o), (1, .int u1), (2, .int u2)]) rfl (by rw [hy6]; rfl) dX10_carrierOf_86 rfl (by decide) rfl ?_
    refine fr_goto (n := 75) dX10_carrierOf_89 (by decide) ?_
    exact fr_sub [1, 2, 3, 0] rfl h
abbrev Lp_X10_begin_18 (g : GE) (d : Nat) (o : Nat) (u1 : Int32) (M : Mem) (r : Option Value) (M' : Mem) : Prop := Fr g d mu_X10_begin 18 [(0, rf g o), (1, .int u1)] [] M r M'
theorem cp_X10_begin {g : GE} {Z : Zs} {I : Nat → Nat → Int32} {L : Nat → Nat → Int64} {r : Option Value} {M' : Mem} {o : Nat} {o_keptBy : Nat} {o_keeps : Nat} (k_o : KM Z o 10) (r_o_keptBy : Z.2.1 o 5 = some o_keptBy) (k_o_keptBy : KM Z o_keptBy 13) (r_o_keeps : Z.2.1 o 6 = some o_keeps) (k_o_keeps : KM Z o_keeps 13) (h : (∃ (I1 : Nat → Nat → Int32) (L2 : Nat → Nat → Int64), Cl g 1 mu_J7_fill_53178 [rf g o_keptBy, .int ((-1))] (Z, I, L) none (Z, I1, L2) ∧ (∃ (I4 : Nat → Nat → Int32) (L5 : Nat → Nat → Int64), Cl g 1 mu_J7_fill_53178 [rf g o_keeps, .int ((-1))] (Z, I1, L2) none (Z, I4, L5) ∧ Lp_X10_begin_18 g 2 o 0 (Z, I4, L5) r M'))) : Cl g 2 mu_X10_begin [rf g o] (Z, I, L) r M' := by
  refine cl_of (lv := [(0, rf g o)]) (by decide) (Nat.le_of_ble_eq_true rfl) rfl ?_
  refine fr_aload_n (i := 0) (q := 0) rfl dX10_begin_0 rfl ?_
  refine fr_getR dX10_begin_1 rfl fl_X10_22 k_o r_o_keptBy ?_
  refine fr_iconst (v := (-1)) (by decide) dX10_begin_4 rfl ?_
  obtain ⟨I1, L2, hc3, h⟩ := h
  refine fr_callS2 (ν := mu_J7_fill_53178) (st2 := []) (As := [rf g o_keptBy, .int ((-1))]) (st := []) (v := none) (M1 := (Z, I1, L2)) dX10_begin_5 rfl ml_X10_68 mo_J7_fill_53178 ms_J7_fill_53178 (Nat.le_of_ble_eq_true rfl) rfl rfl (Nat.le_of_ble_eq_true rfl) hc3 rfl ?_
  refine fr_aload_n (i := 0) (q := 0) rfl dX10_begin_8 rfl ?_
  refine fr_getR dX10_begin_9 rfl fl_X10_25 k_o r_o_keeps ?_
  refine fr_iconst (v := (-1)) (by decide) dX10_begin_12 rfl ?_
  obtain ⟨I4, L5, hc6, h⟩ := h
  refine fr_callS2 (ν := mu_J7_fill_53178) (st2 := []) (As := [rf g o_keeps, .int ((-1))]) (st := []) (v := none) (M1 := (Z, I4, L5)) dX10_begin_13 rfl ml_X10_68 mo_J7_fill_53178 ms_J7_fill_53178 (Nat.le_of_ble_eq_true rfl) rfl rfl (Nat.le_of_ble_eq_true rfl) hc6 rfl ?_
  refine fr_iconst (v := 0) (by decide) dX10_begin_16 rfl ?_
  refine fr_istore_n (i := 1) (lv' := [(1, .int 0), (0, rf g o)]) dX10_begin_17 rfl (by decide) rfl ?_
  exact fr_sub [1, 0] rfl h
theorem wp_X10_begin_18 {g : GE} {Z : Zs} {I : Nat → Nat → Int32} {L : Nat → Nat → Int64} {r : Option Value} {M' : Mem} {o : Nat} {u1 : Int32} {o_hasAsked : Nat} (k_o : KM Z o 10) (r_o_hasAsked : Z.2.1 o 4 = some o_hasAsked) (k_o_hasAsked : KM Z o_hasAsked 15) (h : ((36 ≤ u1 → (r = none ∧ M' = (Z, I, L))) ∧ (¬ 36 ≤ u1 → (vp_in u1 (Z.2.2.1 o_hasAsked) ∧ (∀ I2 : Nat → Nat → Int32, I2 = rw1 I o_hasAsked (upd (I o_hasAsked) u1.toNatClampNeg (vp_nar .boolean 0)) → (∀ y3 : Int32, y3 = (u1 + 1) → Lp_X10_begin_18 g 2 o y3 (Z, I2, L) r M')))))) : Lp_X10_begin_18 g 2 o u1 (Z, I, L) r M' := by
  refine fr_iload_n (i := 1) (q := 1) rfl dX10_begin_18 rfl ?_
  refine fr_bipush (v := 36) (by decide) dX10_begin_19 rfl ?_
  refine fr_icmp_ge (tgt := 37) dX10_begin_21 (by decide) rfl (fun hc => ?_) (fun hc => ?_)
  · have h := h.1 hc
    exact fr_vret rfl dX10_begin_37 h.1 h.2
  · have h := h.2 hc
    refine fr_aload_n (i := 0) (q := 0) rfl dX10_begin_24 rfl ?_
    refine fr_getR dX10_begin_25 rfl fl_X10_18 k_o r_o_hasAsked ?_
    refine fr_iload_n (i := 1) (q := 1) rfl dX10_begin_28 rfl ?_
    refine fr_iconst (v := 0) (by decide) dX10_begin_29 rfl ?_
    obtain ⟨hz1, h⟩ := h
    refine fr_zast dX10_begin_30 rfl k_o_hasAsked hz1 ?_
    refine fr_memI (fun I2 hI2 => ?_)
    have h := h I2 hI2
    obtain ⟨y3, hy3⟩ : ∃ y : Int32, y = u1 + 1 := ⟨_, rfl⟩
    have h := h y3 hy3
    refine fr_iinc (q := 1) (v := y3) (lv' := [(1, .int y3), (0, rf g o)]) rfl (by rw [hy3]; rfl) dX10_begin_31 rfl (by decide) rfl ?_
    refine fr_goto (n := 18) dX10_begin_34 (by decide) ?_
    exact fr_sub [1, 0] rfl h
abbrev Lp_X10_learn_2 (g : GE) (d : Nat) (o : Nat) (u1 : Int32) (a2 : Nat) (u3 : Int32) (M : Mem) (r : Option Value) (M' : Mem) : Prop := Fr g d mu_X10_learn 2 [(0, rf g o), (1, .int u1), (2, rf g a2), (3, .int u3)] [] M r M'
theorem cp_X10_learn {g : GE} {Z : Zs} {I : Nat → Nat → Int32} {L : Nat → Nat → Int64} {r : Option Value} {M' : Mem} {o : Nat} {x1 : Int32} {a2 : Nat} (k_o : KM Z o 10) (k_a2 : KM Z a2 6) (h : Lp_X10_learn_2 g 5 o x1 a2 0 (Z, I, L) r M') : Cl g 5 mu_X10_learn [rf g o, .int x1, rf g a2] (Z, I, L) r M' := by
  refine cl_of (lv := [(0, rf g o), (1, .int x1), (2, rf g a2)]) (by decide) (Nat.le_of_ble_eq_true rfl) rfl ?_
  refine fr_iconst (v := 0) (by decide) dX10_learn_0 rfl ?_
  refine fr_istore_n (i := 3) (lv' := [(3, .int 0), (0, rf g o), (1, .int x1), (2, rf g a2)]) dX10_learn_1 rfl (by decide) rfl ?_
  exact fr_sub [1, 2, 3, 0] rfl h
abbrev Lp_X10_learn_13 (g : GE) (d : Nat) (o : Nat) (u1 : Int32) (a2 : Nat) (u3 : Int32) (u4 : Int32) (M : Mem) (r : Option Value) (M' : Mem) : Prop := Fr g d mu_X10_learn 13 [(0, rf g o), (1, .int u1), (2, rf g a2), (3, .int u3), (4, .int u4)] [] M r M'
theorem wp_X10_learn_2 {g : GE} {Z : Zs} {I : Nat → Nat → Int32} {L : Nat → Nat → Int64} {r : Option Value} {M' : Mem} {o : Nat} {u1 : Int32} {a2 : Nat} {u3 : Int32} (k_o : KM Z o 10) (k_a2 : KM Z a2 6) (h : (((I o 7) ≤ u3 → (r = none ∧ M' = (Z, I, L))) ∧ (¬ (I o 7) ≤ u3 → Lp_X10_learn_13 g 5 o u1 a2 u3 0 (Z, I, L) r M'))) : Lp_X10_learn_2 g 5 o u1 a2 u3 (Z, I, L) r M' := by
  refine fr_iload_n (i := 3) (q := 3) rfl dX10_learn_2 rfl ?_
  refine fr_aload_n (i := 0) (q := 0) rfl dX10_learn_3 rfl ?_
  refine fr_getI dX10_learn_4 rfl fl_X10_51 k_o ?_
  refine fr_icmp_ge (tgt := 104) dX10_learn_7 (by decide) rfl (fun hc => ?_) (fun hc => ?_)
  · have h := h.1 hc
    exact fr_vret rfl dX10_learn_104 h.1 h.2
  · have h := h.2 hc
    refine fr_iconst (v := 0) (by decide) dX10_learn_10 rfl ?_
    refine fr_istore (lv' := [(4, .int 0), (0, rf g o), (1, .int u1), (2, rf g a2), (3, .int u3)]) dX10_learn_11 rfl (by decide) rfl ?_
    exact fr_sub [1, 2, 3, 4, 0] rfl h
abbrev Lp_X10_learn_44 (g : GE) (d : Nat) (o : Nat) (u1 : Int32) (a2 : Nat) (u3 : Int32) (u4 : Int32) (u5 : Int32) (s0 : Int32) (M : Mem) (r : Option Value) (M' : Mem) : Prop := Fr g d mu_X10_learn 44 [(0, rf g o), (1, .int u1), (2, rf g a2), (3, .int u3), (4, .int u4), (5, .int u5)] [.int s0] M r M'
theorem wp_X10_learn_13 {g : GE} {Z : Zs} {I : Nat → Nat → Int32} {L : Nat → Nat → Int64} {r : Option Value} {M' : Mem} {o : Nat} {u1 : Int32} {a2 : Nat} {u3 : Int32} {u4 : Int32} (k_o : KM Z o 10) (k_a2 : KM Z a2 6) (h : (((I o 8) ≤ u4 → (∀ y1 : Int32, y1 = (u3 + 1) → Lp_X10_learn_2 g 5 o u1 a2 y1 (Z, I, L) r M')) ∧ (¬ (I o 8) ≤ u4 → ((¬ u1 = 0 → ((¬ u1 = 0 → Lp_X10_learn_44 g 5 o u1 a2 u3 u4 u4 u3 (Z, I, L) r M') ∧ (u1 = 0 → Lp_X10_learn_44 g 5 o u1 a2 u3 u4 u4 u4 (Z, I, L) r M'))) ∧ (u1 = 0 → ((¬ u1 = 0 → Lp_X10_learn_44 g 5 o u1 a2 u3 u4 u3 u3 (Z, I, L) r M') ∧ (u1 = 0 → Lp_X10_learn_44 g 5 o u1 a2 u3 u4 u3 u4 (Z, I, L) r M'))))))) : Lp_X10_learn_13 g 5 o u1 a2 u3 u4 (Z, I, L) r M' := by
  refine fr_iload (q := 4) rfl dX10_learn_13 rfl ?_
  refine fr_aload_n (i := 0) (q := 0) rfl dX10_learn_15 rfl ?_
  refine fr_getI dX10_learn_16 rfl fl_X10_55 k_o ?_
  refine fr_icmp_ge (tgt := 98) dX10_learn_19 (by decide) rfl (fun hc => ?_) (fun hc => ?_)
  · have h := h.1 hc
    obtain ⟨y1, hy1⟩ : ∃ y : Int32, y = u3 + 1 := ⟨_, rfl⟩
    have h := h y1 hy1
    refine fr_iinc (q := 3) (v := y1) (lv' := [(3, .int y1), (0, rf g o), (1, .int u1), (2, rf g a2), (4, .int u4)]) rfl (by rw [hy1]; rfl) dX10_learn_98 rfl (by decide) rfl ?_
    refine fr_goto (n := 2) dX10_learn_101 (by decide) ?_
    exact fr_sub [1, 2, 3, 0] rfl h
  · have h := h.2 hc
    refine fr_iload_n (i := 1) (q := 1) rfl dX10_learn_22 rfl ?_
    refine fr_if_ne (tgt := 30) dX10_learn_23 (by decide) rfl (fun hc => ?_) (fun hc => ?_)
    · have h := h.1 hc
      refine fr_iload (q := 4) rfl dX10_learn_30 rfl ?_
      refine fr_istore (lv' := [(5, .int u4), (0, rf g o), (1, .int u1), (2, rf g a2), (3, .int u3), (4, .int u4)]) dX10_learn_32 rfl (by decide) rfl ?_
      refine fr_iload_n (i := 1) (q := 2) rfl dX10_learn_34 rfl ?_
      refine fr_if_ne (tgt := 43) dX10_learn_35 (by decide) rfl (fun hc => ?_) (fun hc => ?_)
      · have h := h.1 hc
        refine fr_iload_n (i := 3) (q := 4) rfl dX10_learn_43 rfl ?_
        exact fr_sub [1, 2, 3, 4, 5, 0] rfl h
      · have h := h.2 hc
        refine fr_iload (q := 5) rfl dX10_learn_38 rfl ?_
        refine fr_goto (n := 44) dX10_learn_40 (by decide) ?_
        exact fr_sub [1, 2, 3, 4, 5, 0] rfl h
    · have h := h.2 hc
      refine fr_iload_n (i := 3) (q := 3) rfl dX10_learn_26 rfl ?_
      refine fr_goto (n := 32) dX10_learn_27 (by decide) ?_
      refine fr_istore (lv' := [(5, .int u3), (0, rf g o), (1, .int u1), (2, rf g a2), (3, .int u3), (4, .int u4)]) dX10_learn_32 rfl (by decide) rfl ?_
      refine fr_iload_n (i := 1) (q := 2) rfl dX10_learn_34 rfl ?_
      refine fr_if_ne (tgt := 43) dX10_learn_35 (by decide) rfl (fun hc => ?_) (fun hc => ?_)
      · have h := h.1 hc
        refine fr_iload_n (i := 3) (q := 4) rfl dX10_learn_43 rfl ?_
        exact fr_sub [1, 2, 3, 4, 5, 0] rfl h
      · have h := h.2 hc
        refine fr_iload (q := 5) rfl dX10_learn_38 rfl ?_
        refine fr_goto (n := 44) dX10_learn_40 (by decide) ?_
        exact fr_sub [1, 2, 3, 4, 5, 0] rfl h
theorem wp_X10_learn_44 {g : GE} {Z : Zs} {I : Nat → Nat → Int32} {L : Nat → Nat → Int64} {r : Option Value} {M' : Mem} {o : Nat} {u1 : Int32} {a2 : Nat} {u3 : Int32} {u4 : Int32} {u5 : Int32} {s0 : Int32} {o_askerLikes : Nat} {o_askedLikes : Nat} (k_o : KM Z o 10) (k_a2 : KM Z a2 6) (r_o_askerLikes : Z.2.1 o 2 = some o_askerLikes) (k_o_askerLikes : KM Z o_askerLikes 13) (r_o_askedLikes : Z.2.1 o 3 = some o_askedLikes) (k_o_askedLikes : KM Z o_askedLikes 13) (h : (∃ (v1 : Int32) (I2 : Nat → Nat → Int32) (L3 : Nat → Nat → Int64), Cl g 4 mu_X10_liking [rf g o, rf g a2, .int u5, .int s0, .int u1] (Z, I, L) (some (.int v1)) (Z, I2, L3) ∧ (vp_in ((u3 * 6) + u4) (Z.2.2.1 o_askerLikes) ∧ (∀ I6 : Nat → Nat → Int32, I6 = rw1 I2 o_askerLikes (upd (I2 o_askerLikes) ((u3 * 6) + u4).toNatClampNeg v1) → (∃ (v7 : Int32) (I8 : Nat → Nat → Int32) (L9 : Nat → Nat → Int64), Cl g 4 mu_X10_liking [rf g o, rf g a2, .int u5, .int s0, .int (1 - u1)] (Z, I6, L3) (some (.int v7)) (Z, I8, L9) ∧ (vp_in ((u4 * 6) + u3) (Z.2.2.1 o_askedLikes) ∧ (∀ I12 : Nat → Nat → Int32, I12 = rw1 I8 o_askedLikes (upd (I8 o_askedLikes) ((u4 * 6) + u3).toNatClampNeg v7) → (∀ y13 : Int32, y13 = (u4 + 1) → Lp_X10_learn_13 g 5 o u1 a2 u3 y13 (Z, I12, L9) r M')))))))) : Lp_X10_learn_44 g 5 o u1 a2 u3 u4 u5 s0 (Z, I, L) r M' := by
  refine fr_istore (lv' := [(6, .int s0), (0, rf g o), (1, .int u1), (2, rf g a2), (3, .int u3), (4, .int u4), (5, .int u5)]) dX10_learn_44 rfl (by decide) rfl ?_
  refine fr_aload_n (i := 0) (q := 1) rfl dX10_learn_46 rfl ?_
  refine fr_getR dX10_learn_47 rfl fl_X10_11 k_o r_o_askerLikes ?_
  refine fr_iload_n (i := 3) (q := 4) rfl dX10_learn_50 rfl ?_
  refine fr_bipush (v := 6) (by decide) dX10_learn_51 rfl ?_
  refine fr_imul dX10_learn_53 rfl ?_
  refine fr_iload (q := 5) rfl dX10_learn_54 rfl ?_
  refine fr_iadd dX10_learn_56 rfl ?_
  refine fr_aload_n (i := 0) (q := 1) rfl dX10_learn_57 rfl ?_
  refine fr_aload_n (i := 2) (q := 3) rfl dX10_learn_58 rfl ?_
  refine fr_iload (q := 6) rfl dX10_learn_59 rfl ?_
  refine fr_iload (q := 0) rfl dX10_learn_61 rfl ?_
  refine fr_iload_n (i := 1) (q := 2) rfl dX10_learn_63 rfl ?_
  obtain ⟨v1, I2, L3, hc4, h⟩ := h
  refine fr_callV2 (ν := mu_X10_liking) (st2 := [.int v1, .int ((u3 * 6) + u4), rf g o_askerLikes]) (As := [rf g a2, .int u5, .int s0, .int u1]) (st := [.int ((u3 * 6) + u4), rf g o_askerLikes]) (v := (some (.int v1))) (M1 := (Z, I2, L3)) dX10_learn_64 rfl ml_X10_74 mo_X10_liking mi_X10_liking (ci := 10) rfl rfl k_o (Nat.le_of_ble_eq_true rfl) rfl rfl (Nat.le_of_ble_eq_true rfl) hc4 rfl ?_
  obtain ⟨hz5, h⟩ := h
  refine fr_iast dX10_learn_67 rfl k_o_askerLikes hz5 ?_
  refine fr_memI (fun I6 hI6 => ?_)
  have h := h I6 hI6
  refine fr_aload_n (i := 0) (q := 1) rfl dX10_learn_68 rfl ?_
  refine fr_getR dX10_learn_69 rfl fl_X10_15 k_o r_o_askedLikes ?_
  refine fr_iload (q := 5) rfl dX10_learn_72 rfl ?_
  refine fr_bipush (v := 6) (by decide) dX10_learn_74 rfl ?_
  refine fr_imul dX10_learn_76 rfl ?_
  refine fr_iload_n (i := 3) (q := 4) rfl dX10_learn_77 rfl ?_
  refine fr_iadd dX10_learn_78 rfl ?_
  refine fr_aload_n (i := 0) (q := 1) rfl dX10_learn_79 rfl ?_
  refine fr_aload_n (i := 2) (q := 3) rfl dX10_learn_80 rfl ?_
  refine fr_iload (q := 6) rfl dX10_learn_81 rfl ?_
  refine fr_iload (q := 0) rfl dX10_learn_83 rfl ?_
  refine fr_iconst (v := 1) (by decide) dX10_learn_85 rfl ?_
  refine fr_iload_n (i := 1) (q := 2) rfl dX10_learn_86 rfl ?_
  refine fr_isub dX10_learn_87 rfl ?_
  obtain ⟨v7, I8, L9, hc10, h⟩ := h
  refine fr_callV2 (ν := mu_X10_liking) (st2 := [.int v7, .int ((u4 * 6) + u3), rf g o_askedLikes]) (As := [rf g a2, .int u5, .int s0, .int (1 - u1)]) (st := [.int ((u4 * 6) + u3), rf g o_askedLikes]) (v := (some (.int v7))) (M1 := (Z, I8, L9)) dX10_learn_88 rfl ml_X10_74 mo_X10_liking mi_X10_liking (ci := 10) rfl rfl k_o (Nat.le_of_ble_eq_true rfl) rfl rfl (Nat.le_of_ble_eq_true rfl) hc10 rfl ?_
  obtain ⟨hz11, h⟩ := h
  refine fr_iast dX10_learn_91 rfl k_o_askedLikes hz11 ?_
  refine fr_memI (fun I12 hI12 => ?_)
  have h := h I12 hI12
  obtain ⟨y13, hy13⟩ : ∃ y : Int32, y = u4 + 1 := ⟨_, rfl⟩
  have h := h y13 hy13
  refine fr_iinc (q := 5) (v := y13) (lv' := [(4, .int y13), (6, .int s0), (0, rf g o), (1, .int u1), (2, rf g a2), (3, .int u3), (5, .int u5)]) rfl (by rw [hy13]; rfl) dX10_learn_92 rfl (by decide) rfl ?_
  refine fr_goto (n := 13) dX10_learn_95 (by decide) ?_
  exact fr_sub [2, 3, 4, 5, 0] rfl h
theorem cp_X10_liking {g : GE} {Z : Zs} {I : Nat → Nat → Int32} {L : Nat → Nat → Int64} {r : Option Value} {M' : Mem} {o : Nat} {a1 : Nat} {x2 : Int32} {x3 : Int32} {x4 : Int32} {o_mind : Nat} {o_state : Nat} {o_state_sights : Nat} {o_state_paces : Nat} {a1_orders : Nat} (k_o : KM Z o 10) (k_a1 : KM Z a1 6) (r_o_mind : Z.2.1 o 1 = some o_mind) (k_o_mind : KM Z o_mind 4) (r_o_state : Z.2.1 o 0 = some o_state) (k_o_state : KM Z o_state 8) (r_o_state_sights : Z.2.1 o_state 11 = some o_state_sights) (k_o_state_sights : KM Z o_state_sights 2) (r_o_state_paces : Z.2.1 o_state 12 = some o_state_paces) (k_o_state_paces : KM Z o_state_paces 2) (r_a1_orders : Z.2.1 a1 0 = some a1_orders) (k_a1_orders : KM Z a1_orders 13) (h : ((¬ (I a1 3) = ((-1)) → (∃ (I1 : Nat → Nat → Int32) (L2 : Nat → Nat → Int64), Cl g 1 mu_X4_name [rf g o_mind, .int 6, .int x2] (Z, I, L) none (Z, I1, L2) ∧ (∃ (I4 : Nat → Nat → Int32) (L5 : Nat → Nat → Int64), Cl g 1 mu_X4_name [rf g o_mind, .int 7, .int x3] (Z, I1, L2) none (Z, I4, L5) ∧ (∃ (v7 : Int32), Cl g 1 mu_X2_at [rf g o_state_sights, .int x2] (Z, I4, L5) (some (.int v7)) (Z, I4, L5) ∧ (∃ (I9 : Nat → Nat → Int32) (L10 : Nat → Nat → Int64), Cl g 1 mu_X4_name [rf g o_mind, .int 8, .int v7] (Z, I4, L5) none (Z, I9, L10) ∧ (∃ (v12 : Int32), Cl g 1 mu_X2_at [rf g o_state_paces, .int x3] (Z, I9, L10) (some (.int v12)) (Z, I9, L10) ∧ (∃ (I14 : Nat → Nat → Int32) (L15 : Nat → Nat → Int64), Cl g 1 mu_X4_name [rf g o_mind, .int 9, .int v12] (Z, I9, L10) none (Z, I14, L15) ∧ (∃ (I17 : Nat → Nat → Int32) (L18 : Nat → Nat → Int64), Cl g 1 mu_X4_name [rf g o_mind, .int 10, .int x4] (Z, I14, L15) none (Z, I17, L18) ∧ (∃ (v20 : Int32) (I21 : Nat → Nat → Int32) (L22 : Nat → Nat → Int64), Cl g 3 mu_X4_value [rf g o_mind, rf g a1_orders, .int (I17 a1 3)] (Z, I17, L18) (some (.int v20)) (Z, I21, L22) ∧ (r = some (.int v20) ∧ M' = (Z, I21, L22))))))))))) ∧ ((I a1 3) = ((-1)) → (r = some (.int 0) ∧ M' = (Z, I, L))))) : Cl g 4 mu_X10_liking [rf g o, rf g a1, .int x2, .int x3, .int x4] (Z, I, L) r M' := by
  refine cl_of (lv := [(0, rf g o), (1, rf g a1), (2, .int x2), (3, .int x3), (4, .int x4)]) (by decide) (Nat.le_of_ble_eq_true rfl) rfl ?_
  refine fr_aload_n (i := 1) (q := 1) rfl dX10_liking_0 rfl ?_
  refine fr_getI dX10_liking_1 rfl fl_X10_78 k_a1 ?_
  refine fr_iconst (v := (-1)) (by decide) dX10_liking_4 rfl ?_
  refine fr_icmp_ne (tgt := 10) dX10_liking_5 (by decide) rfl (fun hc => ?_) (fun hc => ?_)
  · have h := h.1 hc
    refine fr_aload_n (i := 0) (q := 0) rfl dX10_liking_10 rfl ?_
    refine fr_getR dX10_liking_11 rfl fl_X10_32 k_o r_o_mind ?_
    refine fr_bipush (v := 6) (by decide) dX10_liking_14 rfl ?_
    refine fr_iload_n (i := 2) (q := 2) rfl dX10_liking_16 rfl ?_
    obtain ⟨I1, L2, hc3, h⟩ := h
    refine fr_callV2 (ν := mu_X4_name) (st2 := []) (As := [.int 6, .int x2]) (st := []) (v := none) (M1 := (Z, I1, L2)) dX10_liking_17 rfl ml_X10_83 mo_X4_name mi_X4_name (ci := 4) rfl rfl k_o_mind (Nat.le_of_ble_eq_true rfl) rfl rfl (Nat.le_of_ble_eq_true rfl) hc3 rfl ?_
    refine fr_aload_n (i := 0) (q := 0) rfl dX10_liking_20 rfl ?_
    refine fr_getR dX10_liking_21 rfl fl_X10_32 k_o r_o_mind ?_
    refine fr_bipush (v := 7) (by decide) dX10_liking_24 rfl ?_
    refine fr_iload_n (i := 3) (q := 3) rfl dX10_liking_26 rfl ?_
    obtain ⟨I4, L5, hc6, h⟩ := h
    refine fr_callV2 (ν := mu_X4_name) (st2 := []) (As := [.int 7, .int x3]) (st := []) (v := none) (M1 := (Z, I4, L5)) dX10_liking_27 rfl ml_X10_83 mo_X4_name mi_X4_name (ci := 4) rfl rfl k_o_mind (Nat.le_of_ble_eq_true rfl) rfl rfl (Nat.le_of_ble_eq_true rfl) hc6 rfl ?_
    refine fr_aload_n (i := 0) (q := 0) rfl dX10_liking_30 rfl ?_
    refine fr_getR dX10_liking_31 rfl fl_X10_32 k_o r_o_mind ?_
    refine fr_bipush (v := 8) (by decide) dX10_liking_34 rfl ?_
    refine fr_aload_n (i := 0) (q := 0) rfl dX10_liking_36 rfl ?_
    refine fr_getR dX10_liking_37 rfl fl_X10_28 k_o r_o_state ?_
    refine fr_getR dX10_liking_40 rfl fl_X10_36 k_o_state r_o_state_sights ?_
    refine fr_iload_n (i := 2) (q := 2) rfl dX10_liking_43 rfl ?_
    obtain ⟨v7, hc8, h⟩ := h
    refine fr_callV2 (ν := mu_X2_at) (st2 := [.int v7, .int 8, rf g o_mind]) (As := [.int x2]) (st := [.int 8, rf g o_mind]) (v := (some (.int v7))) (M1 := (Z, I4, L5)) dX10_liking_44 rfl ml_X10_89 mo_X2_at mi_X2_at (ci := 2) rfl rfl k_o_state_sights (Nat.le_of_ble_eq_true rfl) rfl rfl (Nat.le_of_ble_eq_true rfl) hc8 rfl ?_
    obtain ⟨I9, L10, hc11, h⟩ := h
    refine fr_callV2 (ν := mu_X4_name) (st2 := []) (As := [.int 8, .int v7]) (st := []) (v := none) (M1 := (Z, I9, L10)) dX10_liking_47 rfl ml_X10_83 mo_X4_name mi_X4_name (ci := 4) rfl rfl k_o_mind (Nat.le_of_ble_eq_true rfl) rfl rfl (Nat.le_of_ble_eq_true rfl) hc11 rfl ?_
    refine fr_aload_n (i := 0) (q := 0) rfl dX10_liking_50 rfl ?_
    refine fr_getR dX10_liking_51 rfl fl_X10_32 k_o r_o_mind ?_
    refine fr_bipush (v := 9) (by decide) dX10_liking_54 rfl ?_
    refine fr_aload_n (i := 0) (q := 0) rfl dX10_liking_56 rfl ?_
    refine fr_getR dX10_liking_57 rfl fl_X10_28 k_o r_o_state ?_
    refine fr_getR dX10_liking_60 rfl fl_X10_48 k_o_state r_o_state_paces ?_
    refine fr_iload_n (i := 3) (q := 3) rfl dX10_liking_63 rfl ?_
    obtain ⟨v12, hc13, h⟩ := h
    refine fr_callV2 (ν := mu_X2_at) (st2 := [.int v12, .int 9, rf g o_mind]) (As := [.int x3]) (st := [.int 9, rf g o_mind]) (v := (some (.int v12))) (M1 := (Z, I9, L10)) dX10_liking_64 rfl ml_X10_89 mo_X2_at mi_X2_at (ci := 2) rfl rfl k_o_state_paces (Nat.le_of_ble_eq_true rfl) rfl rfl (Nat.le_of_ble_eq_true rfl) hc13 rfl ?_
    obtain ⟨I14, L15, hc16, h⟩ := h
    refine fr_callV2 (ν := mu_X4_name) (st2 := []) (As := [.int 9, .int v12]) (st := []) (v := none) (M1 := (Z, I14, L15)) dX10_liking_67 rfl ml_X10_83 mo_X4_name mi_X4_name (ci := 4) rfl rfl k_o_mind (Nat.le_of_ble_eq_true rfl) rfl rfl (Nat.le_of_ble_eq_true rfl) hc16 rfl ?_
    refine fr_aload_n (i := 0) (q := 0) rfl dX10_liking_70 rfl ?_
    refine fr_getR dX10_liking_71 rfl fl_X10_32 k_o r_o_mind ?_
    refine fr_bipush (v := 10) (by decide) dX10_liking_74 rfl ?_
    refine fr_iload (q := 4) rfl dX10_liking_76 rfl ?_
    obtain ⟨I17, L18, hc19, h⟩ := h
    refine fr_callV2 (ν := mu_X4_name) (st2 := []) (As := [.int 10, .int x4]) (st := []) (v := none) (M1 := (Z, I17, L18)) dX10_liking_78 rfl ml_X10_83 mo_X4_name mi_X4_name (ci := 4) rfl rfl k_o_mind (Nat.le_of_ble_eq_true rfl) rfl rfl (Nat.le_of_ble_eq_true rfl) hc19 rfl ?_
    refine fr_aload_n (i := 0) (q := 0) rfl dX10_liking_81 rfl ?_
    refine fr_getR dX10_liking_82 rfl fl_X10_32 k_o r_o_mind ?_
    refine fr_aload_n (i := 1) (q := 1) rfl dX10_liking_85 rfl ?_
    refine fr_getR dX10_liking_86 rfl fl_X10_93 k_a1 r_a1_orders ?_
    refine fr_aload_n (i := 1) (q := 1) rfl dX10_liking_89 rfl ?_
    refine fr_getI dX10_liking_90 rfl fl_X10_78 k_a1 ?_
    obtain ⟨v20, I21, L22, hc23, h⟩ := h
    refine fr_callV2 (ν := mu_X4_value) (st2 := [.int v20]) (As := [rf g a1_orders, .int (I17 a1 3)]) (st := []) (v := (some (.int v20))) (M1 := (Z, I21, L22)) dX10_liking_93 rfl ml_X10_96 mo_X4_value mi_X4_value (ci := 4) rfl rfl k_o_mind (Nat.le_of_ble_eq_true rfl) rfl rfl (Nat.le_of_ble_eq_true rfl) hc23 rfl ?_
    exact fr_iret rfl dX10_liking_96 h.1 h.2
  · have h := h.2 hc
    refine fr_iconst (v := 0) (by decide) dX10_liking_8 rfl ?_
    exact fr_iret rfl dX10_liking_9 h.1 h.2
abbrev Lp_X10_oneAsks_2 (g : GE) (d : Nat) (o : Nat) (u1 : Int32) (M : Mem) (r : Option Value) (M' : Mem) : Prop := Fr g d mu_X10_oneAsks 2 [(0, rf g o), (1, .int u1)] [] M r M'
theorem cp_X10_oneAsks {g : GE} {Z : Zs} {I : Nat → Nat → Int32} {L : Nat → Nat → Int64} {r : Option Value} {M' : Mem} {o : Nat} (k_o : KM Z o 10) (h : Lp_X10_oneAsks_2 g 2 o 0 (Z, I, L) r M') : Cl g 2 mu_X10_oneAsks [rf g o] (Z, I, L) r M' := by
  refine cl_of (lv := [(0, rf g o)]) (by decide) (Nat.le_of_ble_eq_true rfl) rfl ?_
  refine fr_iconst (v := 0) (by decide) dX10_oneAsks_0 rfl ?_
  refine fr_istore_n (i := 1) (lv' := [(1, .int 0), (0, rf g o)]) dX10_oneAsks_1 rfl (by decide) rfl ?_
  exact fr_sub [1, 0] rfl h
theorem wp_X10_oneAsks_2 {g : GE} {Z : Zs} {I : Nat → Nat → Int32} {L : Nat → Nat → Int64} {r : Option Value} {M' : Mem} {o : Nat} {u1 : Int32} {o_keptBy : Nat} {o_hasAsked : Nat} (k_o : KM Z o 10) (r_o_keptBy : Z.2.1 o 5 = some o_keptBy) (k_o_keptBy : KM Z o_keptBy 13) (r_o_hasAsked : Z.2.1 o 4 = some o_hasAsked) (k_o_hasAsked : KM Z o_hasAsked 15) (h : (((I o 7) ≤ u1 → (r = none ∧ M' = (Z, I, L))) ∧ (¬ (I o 7) ≤ u1 → (vp_in u1 (Z.2.2.1 o_keptBy) ∧ ((¬ (I o_keptBy u1.toNatClampNeg) = ((-1)) → (∀ y2 : Int32, y2 = ((-1)) → ((y2 = ((-1)) → (∀ y3 : Int32, y3 = (u1 + 1) → Lp_X10_oneAsks_2 g 2 o y3 (Z, I, L) r M')) ∧ (¬ y2 = ((-1)) → (vp_in ((u1 * 6) + y2) (Z.2.2.1 o_hasAsked) ∧ (∀ I5 : Nat → Nat → Int32, I5 = rw1 I o_hasAsked (upd (I o_hasAsked) ((u1 * 6) + y2).toNatClampNeg (vp_nar .boolean 1)) → (∃ (I6 : Nat → Nat → Int32) (L7 : Nat → Nat → Int64), Cl g 1 mu_X10_answer [rf g o, .int u1, .int y2] (Z, I5, L) none (Z, I6, L7) ∧ (r = none ∧ M' = (Z, I6, L7))))))))) ∧ ((I o_keptBy u1.toNatClampNeg) = ((-1)) → (∃ (v9 : Int32), Cl g 1 mu_X10_likedMost [rf g o, .int u1] (Z, I, L) (some (.int v9)) (Z, I, L) ∧ ((v9 = ((-1)) → (∀ y11 : Int32, y11 = (u1 + 1) → Lp_X10_oneAsks_2 g 2 o y11 (Z, I, L) r M')) ∧ (¬ v9 = ((-1)) → (vp_in ((u1 * 6) + v9) (Z.2.2.1 o_hasAsked) ∧ (∀ I13 : Nat → Nat → Int32, I13 = rw1 I o_hasAsked (upd (I o_hasAsked) ((u1 * 6) + v9).toNatClampNeg (vp_nar .boolean 1)) → (∃ (I14 : Nat → Nat → Int32) (L15 : Nat → Nat → Int64), Cl g 1 mu_X10_answer [rf g o, .int u1, .int v9] (Z, I13, L) none (Z, I14, L15) ∧ (r = none ∧ M' = (Z, I14, L15)))))))))))))) : Lp_X10_oneAsks_2 g 2 o u1 (Z, I, L) r M' := by
  refine fr_iload_n (i := 1) (q := 1) rfl dX10_oneAsks_2 rfl ?_
  refine fr_aload_n (i := 0) (q := 0) rfl dX10_oneAsks_3 rfl ?_
  refine fr_getI dX10_oneAsks_4 rfl fl_X10_51 k_o ?_
  refine fr_icmp_ge (tgt := 60) dX10_oneAsks_7 (by decide) rfl (fun hc => ?_) (fun hc => ?_)
  · have h := h.1 hc
    exact fr_vret rfl dX10_oneAsks_60 h.1 h.2
  · have h := h.2 hc
    refine fr_aload_n (i := 0) (q := 0) rfl dX10_oneAsks_10 rfl ?_
    refine fr_getR dX10_oneAsks_11 rfl fl_X10_22 k_o r_o_keptBy ?_
    refine fr_iload_n (i := 1) (q := 1) rfl dX10_oneAsks_14 rfl ?_
    obtain ⟨hz1, h⟩ := h
    refine fr_iald dX10_oneAsks_15 rfl k_o_keptBy hz1 ?_
    refine fr_iconst (v := (-1)) (by decide) dX10_oneAsks_16 rfl ?_
    refine fr_icmp_ne (tgt := 28) dX10_oneAsks_17 (by decide) rfl (fun hc => ?_) (fun hc => ?_)
    · have h := h.1 hc
      refine fr_iconst (v := (-1)) (by decide) dX10_oneAsks_28 rfl ?_
      refine fr_topi (fun y2 hy2 => ?_)
      have h := h y2 hy2
      refine fr_istore_n (i := 2) (lv' := [(2, .int y2), (0, rf g o), (1, .int u1)]) dX10_oneAsks_29 rfl (by decide) rfl ?_
      refine fr_iload_n (i := 2) (q := 0) rfl dX10_oneAsks_30 rfl ?_
      refine fr_iconst (v := (-1)) (by decide) dX10_oneAsks_31 rfl ?_
      refine fr_icmp_eq (tgt := 54) dX10_oneAsks_32 (by decide) rfl (fun hc => ?_) (fun hc => ?_)
      · have h := h.1 hc
        obtain ⟨y3, hy3⟩ : ∃ y : Int32, y = u1 + 1 := ⟨_, rfl⟩
        have h := h y3 hy3
        refine fr_iinc (q := 2) (v := y3) (lv' := [(1, .int y3), (2, .int y2), (0, rf g o)]) rfl (by rw [hy3]; rfl) dX10_oneAsks_54 rfl (by decide) rfl ?_
        refine fr_goto (n := 2) dX10_oneAsks_57 (by decide) ?_
        exact fr_sub [2, 0] rfl h
      · have h := h.2 hc
        refine fr_aload_n (i := 0) (q := 1) rfl dX10_oneAsks_35 rfl ?_
        refine fr_getR dX10_oneAsks_36 rfl fl_X10_18 k_o r_o_hasAsked ?_
        refine fr_iload_n (i := 1) (q := 2) rfl dX10_oneAsks_39 rfl ?_
        refine fr_bipush (v := 6) (by decide) dX10_oneAsks_40 rfl ?_
        refine fr_imul dX10_oneAsks_42 rfl ?_
        refine fr_iload_n (i := 2) (q := 0) rfl dX10_oneAsks_43 rfl ?_
        refine fr_iadd dX10_oneAsks_44 rfl ?_
        refine fr_iconst (v := 1) (by decide) dX10_oneAsks_45 rfl ?_
        obtain ⟨hz4, h⟩ := h
        refine fr_zast dX10_oneAsks_46 rfl k_o_hasAsked hz4 ?_
        refine fr_memI (fun I5 hI5 => ?_)
        have h := h I5 hI5
        refine fr_aload_n (i := 0) (q := 1) rfl dX10_oneAsks_47 rfl ?_
        refine fr_iload_n (i := 1) (q := 2) rfl dX10_oneAsks_48 rfl ?_
        refine fr_iload_n (i := 2) (q := 0) rfl dX10_oneAsks_49 rfl ?_
        obtain ⟨I6, L7, hc8, h⟩ := h
        refine fr_callV2 (ν := mu_X10_answer) (st2 := []) (As := [.int u1, .int y2]) (st := []) (v := none) (M1 := (Z, I6, L7)) dX10_oneAsks_50 rfl ml_X10_103 mo_X10_answer mi_X10_answer (ci := 10) rfl rfl k_o (Nat.le_of_ble_eq_true rfl) rfl rfl (Nat.le_of_ble_eq_true rfl) hc8 rfl ?_
        exact fr_vret rfl dX10_oneAsks_53 h.1 h.2
    · have h := h.2 hc
      refine fr_aload_n (i := 0) (q := 0) rfl dX10_oneAsks_20 rfl ?_
      refine fr_iload_n (i := 1) (q := 1) rfl dX10_oneAsks_21 rfl ?_
      obtain ⟨v9, hc10, h⟩ := h
      refine fr_callV2 (ν := mu_X10_likedMost) (st2 := [.int v9]) (As := [.int u1]) (st := []) (v := (some (.int v9))) (M1 := (Z, I, L)) dX10_oneAsks_22 rfl ml_X10_100 mo_X10_likedMost mi_X10_likedMost (ci := 10) rfl rfl k_o (Nat.le_of_ble_eq_true rfl) rfl rfl (Nat.le_of_ble_eq_true rfl) hc10 rfl ?_
      refine fr_goto (n := 29) dX10_oneAsks_25 (by decide) ?_
      refine fr_istore_n (i := 2) (lv' := [(2, .int v9), (0, rf g o), (1, .int u1)]) dX10_oneAsks_29 rfl (by decide) rfl ?_
      refine fr_iload_n (i := 2) (q := 0) rfl dX10_oneAsks_30 rfl ?_
      refine fr_iconst (v := (-1)) (by decide) dX10_oneAsks_31 rfl ?_
      refine fr_icmp_eq (tgt := 54) dX10_oneAsks_32 (by decide) rfl (fun hc => ?_) (fun hc => ?_)
      · have h := h.1 hc
        obtain ⟨y11, hy11⟩ : ∃ y : Int32, y = u1 + 1 := ⟨_, rfl⟩
        have h := h y11 hy11
        refine fr_iinc (q := 2) (v := y11) (lv' := [(1, .int y11), (2, .int v9), (0, rf g o)]) rfl (by rw [hy11]; rfl) dX10_oneAsks_54 rfl (by decide) rfl ?_
        refine fr_goto (n := 2) dX10_oneAsks_57 (by decide) ?_
        exact fr_sub [2, 0] rfl h
      · have h := h.2 hc
        refine fr_aload_n (i := 0) (q := 1) rfl dX10_oneAsks_35 rfl ?_
        refine fr_getR dX10_oneAsks_36 rfl fl_X10_18 k_o r_o_hasAsked ?_
        refine fr_iload_n (i := 1) (q := 2) rfl dX10_oneAsks_39 rfl ?_
        refine fr_bipush (v := 6) (by decide) dX10_oneAsks_40 rfl ?_
        refine fr_imul dX10_oneAsks_42 rfl ?_
        refine fr_iload_n (i := 2) (q := 0) rfl dX10_oneAsks_43 rfl ?_
        refine fr_iadd dX10_oneAsks_44 rfl ?_
        refine fr_iconst (v := 1) (by decide) dX10_oneAsks_45 rfl ?_
        obtain ⟨hz12, h⟩ := h
        refine fr_zast dX10_oneAsks_46 rfl k_o_hasAsked hz12 ?_
        refine fr_memI (fun I13 hI13 => ?_)
        have h := h I13 hI13
        refine fr_aload_n (i := 0) (q := 1) rfl dX10_oneAsks_47 rfl ?_
        refine fr_iload_n (i := 1) (q := 2) rfl dX10_oneAsks_48 rfl ?_
        refine fr_iload_n (i := 2) (q := 0) rfl dX10_oneAsks_49 rfl ?_
        obtain ⟨I14, L15, hc16, h⟩ := h
        refine fr_callV2 (ν := mu_X10_answer) (st2 := []) (As := [.int u1, .int v9]) (st := []) (v := none) (M1 := (Z, I14, L15)) dX10_oneAsks_50 rfl ml_X10_103 mo_X10_answer mi_X10_answer (ci := 10) rfl rfl k_o (Nat.le_of_ble_eq_true rfl) rfl rfl (Nat.le_of_ble_eq_true rfl) hc16 rfl ?_
        exact fr_vret rfl dX10_oneAsks_53 h.1 h.2
abbrev Lp_X10_likedMost_4 (g : GE) (d : Nat) (o : Nat) (u1 : Int32) (u2 : Int32) (u3 : Int32) (M : Mem) (r : Option Value) (M' : Mem) : Prop := Fr g d mu_X10_likedMost 4 [(0, rf g o), (1, .int u1), (2, .int u2), (3, .int u3)] [] M r M'
theorem cp_X10_likedMost {g : GE} {Z : Zs} {I : Nat → Nat → Int32} {L : Nat → Nat → Int64} {r : Option Value} {M' : Mem} {o : Nat} {x1 : Int32} (k_o : KM Z o 10) (h : (∀ y1 : Int32, y1 = ((-1)) → Lp_X10_likedMost_4 g 1 o x1 y1 0 (Z, I, L) r M')) : Cl g 1 mu_X10_likedMost [rf g o, .int x1] (Z, I, L) r M' := by
  refine cl_of (lv := [(0, rf g o), (1, .int x1)]) (by decide) (Nat.le_of_ble_eq_true rfl) rfl ?_
  refine fr_iconst (v := (-1)) (by decide) dX10_likedMost_0 rfl ?_
  refine fr_topi (fun y1 hy1 => ?_)
  have h := h y1 hy1
  refine fr_istore_n (i := 2) (lv' := [(2, .int y1), (0, rf g o), (1, .int x1)]) dX10_likedMost_1 rfl (by decide) rfl ?_
  refine fr_iconst (v := 0) (by decide) dX10_likedMost_2 rfl ?_
  refine fr_istore_n (i := 3) (lv' := [(3, .int 0), (2, .int y1), (0, rf g o), (1, .int x1)]) dX10_likedMost_3 rfl (by decide) rfl ?_
  exact fr_sub [2, 3, 1, 0] rfl h
theorem wp_X10_likedMost_4 {g : GE} {Z : Zs} {I : Nat → Nat → Int32} {L : Nat → Nat → Int64} {r : Option Value} {M' : Mem} {o : Nat} {u1 : Int32} {u2 : Int32} {u3 : Int32} {o_hasAsked : Nat} {o_askerLikes : Nat} (k_o : KM Z o 10) (r_o_hasAsked : Z.2.1 o 4 = some o_hasAsked) (k_o_hasAsked : KM Z o_hasAsked 15) (r_o_askerLikes : Z.2.1 o 2 = some o_askerLikes) (k_o_askerLikes : KM Z o_askerLikes 13) (h : (((I o 8) ≤ u3 → (r = some (.int u2) ∧ M' = (Z, I, L))) ∧ (¬ (I o 8) ≤ u3 → (vp_in ((u1 * 6) + u3) (Z.2.2.1 o_hasAsked) ∧ ((¬ (I o_hasAsked ((u1 * 6) + u3).toNatClampNeg) = 0 → (∀ y2 : Int32, y2 = (u3 + 1) → Lp_X10_likedMost_4 g 1 o u1 u2 y2 (Z, I, L) r M')) ∧ ((I o_hasAsked ((u1 * 6) + u3).toNatClampNeg) = 0 → ((u2 = ((-1)) → (∀ y3 : Int32, y3 = (u3 + 1) → Lp_X10_likedMost_4 g 1 o u1 u3 y3 (Z, I, L) r M')) ∧ (¬ u2 = ((-1)) → (vp_in ((u1 * 6) + u3) (Z.2.2.1 o_askerLikes) ∧ (vp_in ((u1 * 6) + u2) (Z.2.2.1 o_askerLikes) ∧ (((I o_askerLikes ((u1 * 6) + u3).toNatClampNeg) ≤ (I o_askerLikes ((u1 * 6) + u2).toNatClampNeg) → (∀ y6 : Int32, y6 = (u3 + 1) → Lp_X10_likedMost_4 g 1 o u1 u2 y6 (Z, I, L) r M')) ∧ (¬ (I o_askerLikes ((u1 * 6) + u3).toNatClampNeg) ≤ (I o_askerLikes ((u1 * 6) + u2).toNatClampNeg) → (∀ y7 : Int32, y7 = (u3 + 1) → Lp_X10_likedMost_4 g 1 o u1 u3 y7 (Z, I, L) r M'))))))))))))) : Lp_X10_likedMost_4 g 1 o u1 u2 u3 (Z, I, L) r M' := by
  refine fr_iload_n (i := 3) (q := 3) rfl dX10_likedMost_4 rfl ?_
  refine fr_aload_n (i := 0) (q := 0) rfl dX10_likedMost_5 rfl ?_
  refine fr_getI dX10_likedMost_6 rfl fl_X10_55 k_o ?_
  refine fr_icmp_ge (tgt := 76) dX10_likedMost_9 (by decide) rfl (fun hc => ?_) (fun hc => ?_)
  · have h := h.1 hc
    refine fr_iload_n (i := 2) (q := 2) rfl dX10_likedMost_76 rfl ?_
    exact fr_iret rfl dX10_likedMost_77 h.1 h.2
  · have h := h.2 hc
    refine fr_aload_n (i := 0) (q := 0) rfl dX10_likedMost_12 rfl ?_
    refine fr_getR dX10_likedMost_13 rfl fl_X10_18 k_o r_o_hasAsked ?_
    refine fr_iload_n (i := 1) (q := 1) rfl dX10_likedMost_16 rfl ?_
    refine fr_bipush (v := 6) (by decide) dX10_likedMost_17 rfl ?_
    refine fr_imul dX10_likedMost_19 rfl ?_
    refine fr_iload_n (i := 3) (q := 3) rfl dX10_likedMost_20 rfl ?_
    refine fr_iadd dX10_likedMost_21 rfl ?_
    obtain ⟨hz1, h⟩ := h
    refine fr_zald dX10_likedMost_22 rfl k_o_hasAsked hz1 ?_
    refine fr_if_ne (tgt := 30) dX10_likedMost_23 (by decide) rfl (fun hc => ?_) (fun hc => ?_)
    · have h := h.1 hc
      refine fr_iconst (v := 0) (by decide) dX10_likedMost_30 rfl ?_
      refine fr_istore (lv' := [(4, .int 0), (0, rf g o), (1, .int u1), (2, .int u2), (3, .int u3)]) dX10_likedMost_31 rfl (by decide) rfl ?_
      refine fr_iload (q := 0) rfl dX10_likedMost_33 rfl ?_
      refine fr_if_eq (tgt := 70) dX10_likedMost_35 (by decide) rfl (fun _ => ?_) (fun hc => absurd hc (by decide))
      obtain ⟨y2, hy2⟩ : ∃ y : Int32, y = u3 + 1 := ⟨_, rfl⟩
      have h := h y2 hy2
      refine fr_iinc (q := 4) (v := y2) (lv' := [(3, .int y2), (4, .int 0), (0, rf g o), (1, .int u1), (2, .int u2)]) rfl (by rw [hy2]; rfl) dX10_likedMost_70 rfl (by decide) rfl ?_
      refine fr_goto (n := 4) dX10_likedMost_73 (by decide) ?_
      exact fr_sub [2, 3, 4, 0] rfl h
    · have h := h.2 hc
      refine fr_iconst (v := 1) (by decide) dX10_likedMost_26 rfl ?_
      refine fr_goto (n := 31) dX10_likedMost_27 (by decide) ?_
      refine fr_istore (lv' := [(4, .int 1), (0, rf g o), (1, .int u1), (2, .int u2), (3, .int u3)]) dX10_likedMost_31 rfl (by decide) rfl ?_
      refine fr_iload (q := 0) rfl dX10_likedMost_33 rfl ?_
      refine fr_if_eq (tgt := 70) dX10_likedMost_35 (by decide) rfl (fun hc => absurd hc (by decide)) (fun _ => ?_)
      refine fr_iload_n (i := 2) (q := 3) rfl dX10_likedMost_38 rfl ?_
      refine fr_iconst (v := (-1)) (by decide) dX10_likedMost_39 rfl ?_
      refine fr_icmp_eq (tgt := 68) dX10_likedMost_40 (by decide) rfl (fun hc => ?_) (fun hc => ?_)
      · have h := h.1 hc
        refine fr_iload_n (i := 3) (q := 4) rfl dX10_likedMost_68 rfl ?_
        refine fr_istore_n (i := 2) (lv' := [(2, .int u3), (4, .int 1), (0, rf g o), (1, .int u1), (3, .int u3)]) dX10_likedMost_69 rfl (by decide) rfl ?_
        obtain ⟨y3, hy3⟩ : ∃ y : Int32, y = u3 + 1 := ⟨_, rfl⟩
        have h := h y3 hy3
        refine fr_iinc (q := 4) (v := y3) (lv' := [(3, .int y3), (2, .int u3), (4, .int 1), (0, rf g o), (1, .int u1)]) rfl (by rw [hy3]; rfl) dX10_likedMost_70 rfl (by decide) rfl ?_
        refine fr_goto (n := 4) dX10_likedMost_73 (by decide) ?_
        exact fr_sub [3, 4, 1, 0] rfl h
      · have h := h.2 hc
        refine fr_aload_n (i := 0) (q := 1) rfl dX10_likedMost_43 rfl ?_
        refine fr_getR dX10_likedMost_44 rfl fl_X10_11 k_o r_o_askerLikes ?_
        refine fr_iload_n (i := 1) (q := 2) rfl dX10_likedMost_47 rfl ?_
        refine fr_bipush (v := 6) (by decide) dX10_likedMost_48 rfl ?_
        refine fr_imul dX10_likedMost_50 rfl ?_
        refine fr_iload_n (i := 3) (q := 4) rfl dX10_likedMost_51 rfl ?_
        refine fr_iadd dX10_likedMost_52 rfl ?_
        obtain ⟨hz4, h⟩ := h
        refine fr_iald dX10_likedMost_53 rfl k_o_askerLikes hz4 ?_
        refine fr_aload_n (i := 0) (q := 1) rfl dX10_likedMost_54 rfl ?_
        refine fr_getR dX10_likedMost_55 rfl fl_X10_11 k_o r_o_askerLikes ?_
        refine fr_iload_n (i := 1) (q := 2) rfl dX10_likedMost_58 rfl ?_
        refine fr_bipush (v := 6) (by decide) dX10_likedMost_59 rfl ?_
        refine fr_imul dX10_likedMost_61 rfl ?_
        refine fr_iload_n (i := 2) (q := 3) rfl dX10_likedMost_62 rfl ?_
        refine fr_iadd dX10_likedMost_63 rfl ?_
        obtain ⟨hz5, h⟩ := h
        refine fr_iald dX10_likedMost_64 rfl k_o_askerLikes hz5 ?_
        refine fr_icmp_le (tgt := 70) dX10_likedMost_65 (by decide) rfl (fun hc => ?_) (fun hc => ?_)
        · have h := h.1 hc
          obtain ⟨y6, hy6⟩ : ∃ y : Int32, y = u3 + 1 := ⟨_, rfl⟩
          have h := h y6 hy6
          refine fr_iinc (q := 4) (v := y6) (lv' := [(3, .int y6), (4, .int 1), (0, rf g o), (1, .int u1), (2, .int u2)]) rfl (by rw [hy6]; rfl) dX10_likedMost_70 rfl (by decide) rfl ?_
          refine fr_goto (n := 4) dX10_likedMost_73 (by decide) ?_
          exact fr_sub [2, 3, 4, 0] rfl h
        · have h := h.2 hc
          refine fr_iload_n (i := 3) (q := 4) rfl dX10_likedMost_68 rfl ?_
          refine fr_istore_n (i := 2) (lv' := [(2, .int u3), (4, .int 1), (0, rf g o), (1, .int u1), (3, .int u3)]) dX10_likedMost_69 rfl (by decide) rfl ?_
          obtain ⟨y7, hy7⟩ : ∃ y : Int32, y = u3 + 1 := ⟨_, rfl⟩
          have h := h y7 hy7
          refine fr_iinc (q := 4) (v := y7) (lv' := [(3, .int y7), (2, .int u3), (4, .int 1), (0, rf g o), (1, .int u1)]) rfl (by rw [hy7]; rfl) dX10_likedMost_70 rfl (by decide) rfl ?_
          refine fr_goto (n := 4) dX10_likedMost_73 (by decide) ?_
          exact fr_sub [3, 4, 1, 0] rfl h
theorem cp_X10_answer {g : GE} {Z : Zs} {I : Nat → Nat → Int32} {L : Nat → Nat → Int64} {r : Option Value} {M' : Mem} {o : Nat} {x1 : Int32} {x2 : Int32} {o_keeps : Nat} {o_keptBy : Nat} {o_askedLikes : Nat} (k_o : KM Z o 10) (r_o_keeps : Z.2.1 o 6 = some o_keeps) (k_o_keeps : KM Z o_keeps 13) (r_o_keptBy : Z.2.1 o 5 = some o_keptBy) (k_o_keptBy : KM Z o_keptBy 13) (r_o_askedLikes : Z.2.1 o 3 = some o_askedLikes) (k_o_askedLikes : KM Z o_askedLikes 13) (h : (vp_in x2 (Z.2.2.1 o_keeps) ∧ (∀ y2 : Int32, y2 = (I o_keeps x2.toNatClampNeg) → ((y2 = ((-1)) → (vp_in x2 (Z.2.2.1 o_keeps) ∧ (∀ I4 : Nat → Nat → Int32, I4 = rw1 I o_keeps (upd (I o_keeps) x2.toNatClampNeg x1) → (vp_in x1 (Z.2.2.1 o_keptBy) ∧ (∀ I6 : Nat → Nat → Int32, I6 = rw1 I4 o_keptBy (upd (I4 o_keptBy) x1.toNatClampNeg x2) → (r = none ∧ M' = (Z, I6, L))))))) ∧ (¬ y2 = ((-1)) → (vp_in ((x2 * 6) + x1) (Z.2.2.1 o_askedLikes) ∧ (vp_in ((x2 * 6) + y2) (Z.2.2.1 o_askedLikes) ∧ (∀ y9 : Int32, y9 = ((I o_askedLikes ((x2 * 6) + x1).toNatClampNeg) - (I o_askedLikes ((x2 * 6) + y2).toNatClampNeg)) → ((y9 < 0 → (r = none ∧ M' = (Z, I, L))) ∧ (¬ y9 < 0 → ((¬ y9 = 0 → (vp_in y2 (Z.2.2.1 o_keptBy) ∧ (∀ I11 : Nat → Nat → Int32, I11 = rw1 I o_keptBy (upd (I o_keptBy) y2.toNatClampNeg ((-1))) → (vp_in x2 (Z.2.2.1 o_keeps) ∧ (∀ I13 : Nat → Nat → Int32, I13 = rw1 I11 o_keeps (upd (I11 o_keeps) x2.toNatClampNeg x1) → (vp_in x1 (Z.2.2.1 o_keptBy) ∧ (∀ I15 : Nat → Nat → Int32, I15 = rw1 I13 o_keptBy (upd (I13 o_keptBy) x1.toNatClampNeg x2) → (r = none ∧ M' = (Z, I15, L))))))))) ∧ (y9 = 0 → ((x1 ≤ y2 → (vp_in y2 (Z.2.2.1 o_keptBy) ∧ (∀ I17 : Nat → Nat → Int32, I17 = rw1 I o_keptBy (upd (I o_keptBy) y2.toNatClampNeg ((-1))) → (vp_in x2 (Z.2.2.1 o_keeps) ∧ (∀ I19 : Nat → Nat → Int32, I19 = rw1 I17 o_keeps (upd (I17 o_keeps) x2.toNatClampNeg x1) → (vp_in x1 (Z.2.2.1 o_keptBy) ∧ (∀ I21 : Nat → Nat → Int32, I21 = rw1 I19 o_keptBy (upd (I19 o_keptBy) x1.toNatClampNeg x2) → (r = none ∧ M' = (Z, I21, L))))))))) ∧ (¬ x1 ≤ y2 → (r = none ∧ M' = (Z, I, L)))))))))))))))) : Cl g 1 mu_X10_answer [rf g o, .int x1, .int x2] (Z, I, L) r M' := by
  refine cl_of (lv := [(0, rf g o), (1, .int x1), (2, .int x2)]) (by decide) (Nat.le_of_ble_eq_true rfl) rfl ?_
  refine fr_aload_n (i := 0) (q := 0) rfl dX10_answer_0 rfl ?_
  refine fr_getR dX10_answer_1 rfl fl_X10_25 k_o r_o_keeps ?_
  refine fr_iload_n (i := 2) (q := 2) rfl dX10_answer_4 rfl ?_
  obtain ⟨hz1, h⟩ := h
  refine fr_iald dX10_answer_5 rfl k_o_keeps hz1 ?_
  refine fr_topi (fun y2 hy2 => ?_)
  have h := h y2 hy2
  refine fr_istore_n (i := 3) (lv' := [(3, .int y2), (0, rf g o), (1, .int x1), (2, .int x2)]) dX10_answer_6 rfl (by decide) rfl ?_
  refine fr_iload_n (i := 3) (q := 0) rfl dX10_answer_7 rfl ?_
  refine fr_iconst (v := (-1)) (by decide) dX10_answer_8 rfl ?_
  refine fr_icmp_eq (tgt := 60) dX10_answer_9 (by decide) rfl (fun hc => ?_) (fun hc => ?_)
  · have h := h.1 hc
    refine fr_aload_n (i := 0) (q := 1) rfl dX10_answer_60 rfl ?_
    refine fr_getR dX10_answer_61 rfl fl_X10_25 k_o r_o_keeps ?_
    refine fr_iload_n (i := 2) (q := 3) rfl dX10_answer_64 rfl ?_
    refine fr_iload_n (i := 1) (q := 2) rfl dX10_answer_65 rfl ?_
    obtain ⟨hz3, h⟩ := h
    refine fr_iast dX10_answer_66 rfl k_o_keeps hz3 ?_
    refine fr_memI (fun I4 hI4 => ?_)
    have h := h I4 hI4
    refine fr_aload_n (i := 0) (q := 1) rfl dX10_answer_67 rfl ?_
    refine fr_getR dX10_answer_68 rfl fl_X10_22 k_o r_o_keptBy ?_
    refine fr_iload_n (i := 1) (q := 2) rfl dX10_answer_71 rfl ?_
    refine fr_iload_n (i := 2) (q := 3) rfl dX10_answer_72 rfl ?_
    obtain ⟨hz5, h⟩ := h
    refine fr_iast dX10_answer_73 rfl k_o_keptBy hz5 ?_
    refine fr_memI (fun I6 hI6 => ?_)
    have h := h I6 hI6
    exact fr_vret rfl dX10_answer_74 h.1 h.2
  · have h := h.2 hc
    refine fr_aload_n (i := 0) (q := 1) rfl dX10_answer_12 rfl ?_
    refine fr_getR dX10_answer_13 rfl fl_X10_15 k_o r_o_askedLikes ?_
    refine fr_iload_n (i := 2) (q := 3) rfl dX10_answer_16 rfl ?_
    refine fr_bipush (v := 6) (by decide) dX10_answer_17 rfl ?_
    refine fr_imul dX10_answer_19 rfl ?_
    refine fr_iload_n (i := 1) (q := 2) rfl dX10_answer_20 rfl ?_
    refine fr_iadd dX10_answer_21 rfl ?_
    obtain ⟨hz7, h⟩ := h
    refine fr_iald dX10_answer_22 rfl k_o_askedLikes hz7 ?_
    refine fr_aload_n (i := 0) (q := 1) rfl dX10_answer_23 rfl ?_
    refine fr_getR dX10_answer_24 rfl fl_X10_15 k_o r_o_askedLikes ?_
    refine fr_iload_n (i := 2) (q := 3) rfl dX10_answer_27 rfl ?_
    refine fr_bipush (v := 6) (by decide) dX10_answer_28 rfl ?_
    refine fr_imul dX10_answer_30 rfl ?_
    refine fr_iload_n (i := 3) (q := 0) rfl dX10_answer_31 rfl ?_
    refine fr_iadd dX10_answer_32 rfl ?_
    obtain ⟨hz8, h⟩ := h
    refine fr_iald dX10_answer_33 rfl k_o_askedLikes hz8 ?_
    refine fr_isub dX10_answer_34 rfl ?_
    refine fr_topi (fun y9 hy9 => ?_)
    have h := h y9 hy9
    refine fr_istore (lv' := [(4, .int y9), (3, .int y2), (0, rf g o), (1, .int x1), (2, .int x2)]) dX10_answer_35 rfl (by decide) rfl ?_
    refine fr_iload (q := 0) rfl dX10_answer_37 rfl ?_
    refine fr_if_lt (tgt := 52) dX10_answer_39 (by decide) rfl (fun hc => ?_) (fun hc => ?_)
    · have h := h.1 hc
      exact fr_vret rfl dX10_answer_52 h.1 h.2
    · have h := h.2 hc
      refine fr_iload (q := 0) rfl dX10_answer_42 rfl ?_
      refine fr_if_ne (tgt := 53) dX10_answer_44 (by decide) rfl (fun hc => ?_) (fun hc => ?_)
      · have h := h.1 hc
        refine fr_aload_n (i := 0) (q := 2) rfl dX10_answer_53 rfl ?_
        refine fr_getR dX10_answer_54 rfl fl_X10_22 k_o r_o_keptBy ?_
        refine fr_iload_n (i := 3) (q := 1) rfl dX10_answer_57 rfl ?_
        refine fr_iconst (v := (-1)) (by decide) dX10_answer_58 rfl ?_
        obtain ⟨hz10, h⟩ := h
        refine fr_iast dX10_answer_59 rfl k_o_keptBy hz10 ?_
        refine fr_memI (fun I11 hI11 => ?_)
        have h := h I11 hI11
        refine fr_aload_n (i := 0) (q := 2) rfl dX10_answer_60 rfl ?_
        refine fr_getR dX10_answer_61 rfl fl_X10_25 k_o r_o_keeps ?_
        refine fr_iload_n (i := 2) (q := 4) rfl dX10_answer_64 rfl ?_
        refine fr_iload_n (i := 1) (q := 3) rfl dX10_answer_65 rfl ?_
        obtain ⟨hz12, h⟩ := h
        refine fr_iast dX10_answer_66 rfl k_o_keeps hz12 ?_
        refine fr_memI (fun I13 hI13 => ?_)
        have h := h I13 hI13
        refine fr_aload_n (i := 0) (q := 2) rfl dX10_answer_67 rfl ?_
        refine fr_getR dX10_answer_68 rfl fl_X10_22 k_o r_o_keptBy ?_
        refine fr_iload_n (i := 1) (q := 3) rfl dX10_answer_71 rfl ?_
        refine fr_iload_n (i := 2) (q := 4) rfl dX10_answer_72 rfl ?_
        obtain ⟨hz14, h⟩ := h
        refine fr_iast dX10_answer_73 rfl k_o_keptBy hz14 ?_
        refine fr_memI (fun I15 hI15 => ?_)
        have h := h I15 hI15
        exact fr_vret rfl dX10_answer_74 h.1 h.2
      · have h := h.2 hc
        refine fr_iload_n (i := 3) (q := 1) rfl dX10_answer_47 rfl ?_
        refine fr_iload_n (i := 1) (q := 3) rfl dX10_answer_48 rfl ?_
        refine fr_icmp_ge (tgt := 53) dX10_answer_49 (by decide) rfl (fun hc => ?_) (fun hc => ?_)
        · have h := h.1 hc
          refine fr_aload_n (i := 0) (q := 2) rfl dX10_answer_53 rfl ?_
          refine fr_getR dX10_answer_54 rfl fl_X10_22 k_o r_o_keptBy ?_
          refine fr_iload_n (i := 3) (q := 1) rfl dX10_answer_57 rfl ?_
          refine fr_iconst (v := (-1)) (by decide) dX10_answer_58 rfl ?_
          obtain ⟨hz16, h⟩ := h
          refine fr_iast dX10_answer_59 rfl k_o_keptBy hz16 ?_
          refine fr_memI (fun I17 hI17 => ?_)
          have h := h I17 hI17
          refine fr_aload_n (i := 0) (q := 2) rfl dX10_answer_60 rfl ?_
          refine fr_getR dX10_answer_61 rfl fl_X10_25 k_o r_o_keeps ?_
          refine fr_iload_n (i := 2) (q := 4) rfl dX10_answer_64 rfl ?_
          refine fr_iload_n (i := 1) (q := 3) rfl dX10_answer_65 rfl ?_
          obtain ⟨hz18, h⟩ := h
          refine fr_iast dX10_answer_66 rfl k_o_keeps hz18 ?_
          refine fr_memI (fun I19 hI19 => ?_)
          have h := h I19 hI19
          refine fr_aload_n (i := 0) (q := 2) rfl dX10_answer_67 rfl ?_
          refine fr_getR dX10_answer_68 rfl fl_X10_22 k_o r_o_keptBy ?_
          refine fr_iload_n (i := 1) (q := 3) rfl dX10_answer_71 rfl ?_
          refine fr_iload_n (i := 2) (q := 4) rfl dX10_answer_72 rfl ?_
          obtain ⟨hz20, h⟩ := h
          refine fr_iast dX10_answer_73 rfl k_o_keptBy hz20 ?_
          refine fr_memI (fun I21 hI21 => ?_)
          have h := h I21 hI21
          exact fr_vret rfl dX10_answer_74 h.1 h.2
        · have h := h.2 hc
          exact fr_vret rfl dX10_answer_52 h.1 h.2
abbrev Lp_X1_rounds_18 (g : GE) (d : Nat) (o : Nat) (u1 : Int32) (u2 : Int32) (u3 : Int32) (M : Mem) (r : Option Value) (M' : Mem) : Prop := Fr g d mu_X1_rounds 18 [(0, rf g o), (1, .int u1), (2, .int u2), (3, .int u3)] [] M r M'
theorem cp_X1_rounds {g : GE} {Z : Zs} {I : Nat → Nat → Int32} {L : Nat → Nat → Int64} {r : Option Value} {M' : Mem} {o : Nat} {x1 : Int32} {o_state : Nat} {o_state_taps : Nat} (k_o : KM Z o 1) (r_o_state : Z.2.1 o 0 = some o_state) (k_o_state : KM Z o_state 8) (r_o_state_taps : Z.2.1 o_state 5 = some o_state_taps) (k_o_state_taps : KM Z o_state_taps 2) (h : (∃ (I1 : Nat → Nat → Int32) (L2 : Nat → Nat → Int64), Cl g 2 mu_X1_begin [rf g o, .int x1] (Z, I, L) none (Z, I1, L2) ∧ (∃ (v4 : Int32), Cl g 1 mu_X2_size [rf g o_state_taps] (Z, I1, L2) (some (.int v4)) (Z, I1, L2) ∧ Lp_X1_rounds_18 g 7 o x1 v4 0 (Z, I1, L2) r M'))) : Cl g 7 mu_X1_rounds [rf g o, .int x1] (Z, I, L) r M' := by
  refine cl_of (lv := [(0, rf g o), (1, .int x1)]) (by decide) (Nat.le_of_ble_eq_true rfl) rfl ?_
  refine fr_aload_n (i := 0) (q := 0) rfl dX1_rounds_0 rfl ?_
  refine fr_iload_n (i := 1) (q := 1) rfl dX1_rounds_1 rfl ?_
  obtain ⟨I1, L2, hc3, h⟩ := h
  refine fr_callV2 (ν := mu_X1_begin) (st2 := []) (As := [.int x1]) (st := []) (v := none) (M1 := (Z, I1, L2)) dX1_rounds_2 rfl ml_X1_23 mo_X1_begin mi_X1_begin (ci := 1) rfl rfl k_o (Nat.le_of_ble_eq_true rfl) rfl rfl (Nat.le_of_ble_eq_true rfl) hc3 rfl ?_
  refine fr_aload_n (i := 0) (q := 0) rfl dX1_rounds_5 rfl ?_
  refine fr_getR dX1_rounds_6 rfl fl_X1_15 k_o r_o_state ?_
  refine fr_getR dX1_rounds_9 rfl fl_X1_27 k_o_state r_o_state_taps ?_
  obtain ⟨v4, hc5, h⟩ := h
  refine fr_callV2 (ν := mu_X2_size) (st2 := [.int v4]) (As := []) (st := []) (v := (some (.int v4))) (M1 := (Z, I1, L2)) dX1_rounds_12 rfl ml_X1_33 mo_X2_size mi_X2_size (ci := 2) rfl rfl k_o_state_taps (Nat.le_of_ble_eq_true rfl) rfl rfl (Nat.le_of_ble_eq_true rfl) hc5 rfl ?_
  refine fr_istore_n (i := 2) (lv' := [(2, .int v4), (0, rf g o), (1, .int x1)]) dX1_rounds_15 rfl (by decide) rfl ?_
  refine fr_iconst (v := 0) (by decide) dX1_rounds_16 rfl ?_
  refine fr_istore_n (i := 3) (lv' := [(3, .int 0), (2, .int v4), (0, rf g o), (1, .int x1)]) dX1_rounds_17 rfl (by decide) rfl ?_
  exact fr_sub [2, 3, 1, 0] rfl h
theorem wp_X1_rounds_18 {g : GE} {Z : Zs} {I : Nat → Nat → Int32} {L : Nat → Nat → Int64} {r : Option Value} {M' : Mem} {o : Nat} {u1 : Int32} {u2 : Int32} {u3 : Int32} {o_state : Nat} {o_state_taps : Nat} (k_o : KM Z o 1) (r_o_state : Z.2.1 o 0 = some o_state) (k_o_state : KM Z o_state 8) (r_o_state_taps : Z.2.1 o_state 5 = some o_state_taps) (k_o_state_taps : KM Z o_state_taps 2) (h : ((200 < u3 → (r = some (.int ((-1))) ∧ M' = (Z, I, L))) ∧ (¬ 200 < u3 → (∃ (v1 : Int32), Cl g 1 mu_X1_isEmpty [rf g o] (Z, I, L) (some (.int v1)) (Z, I, L) ∧ ((v1 = 0 → ((u2 ≤ 0 → (∀ y3 : Int32, y3 = (u3 + 1) → Lp_X1_rounds_18 g 7 o u1 u2 y3 (Z, I, L) r M')) ∧ (¬ u2 ≤ 0 → (¬ u2 = 0 ∧ (∃ (v5 : Int32), Cl g 1 mu_X2_at [rf g o_state_taps, .int (u3 - u3 / u2 * u2)] (Z, I, L) (some (.int v5)) (Z, I, L) ∧ (∃ (I7 : Nat → Nat → Int32) (L8 : Nat → Nat → Int64), Cl g 6 mu_X1_oneRound [rf g o, .int v5, .int u1] (Z, I, L) none (Z, I7, L8) ∧ (∀ y10 : Int32, y10 = (u3 + 1) → Lp_X1_rounds_18 g 7 o u1 u2 y10 (Z, I7, L8) r M'))))))) ∧ (¬ v1 = 0 → (r = some (.int u3) ∧ M' = (Z, I, L)))))))) : Lp_X1_rounds_18 g 7 o u1 u2 u3 (Z, I, L) r M' := by
  refine fr_iload_n (i := 3) (q := 3) rfl dX1_rounds_18 rfl ?_
  refine fr_sipush (v := 200) (by decide) dX1_rounds_19 rfl ?_
  refine fr_icmp_gt (tgt := 62) dX1_rounds_22 (by decide) rfl (fun hc => ?_) (fun hc => ?_)
  · have h := h.1 hc
    refine fr_iconst (v := (-1)) (by decide) dX1_rounds_62 rfl ?_
    exact fr_iret rfl dX1_rounds_63 h.1 h.2
  · have h := h.2 hc
    refine fr_aload_n (i := 0) (q := 0) rfl dX1_rounds_25 rfl ?_
    obtain ⟨v1, hc2, h⟩ := h
    refine fr_callV2 (ν := mu_X1_isEmpty) (st2 := [.int v1]) (As := []) (st := []) (v := (some (.int v1))) (M1 := (Z, I, L)) dX1_rounds_26 rfl ml_X1_39 mo_X1_isEmpty mi_X1_isEmpty (ci := 1) rfl rfl k_o (Nat.le_of_ble_eq_true rfl) rfl rfl (Nat.le_of_ble_eq_true rfl) hc2 rfl ?_
    refine fr_if_eq (tgt := 34) dX1_rounds_29 (by decide) rfl (fun hc => ?_) (fun hc => ?_)
    · have h := h.1 hc
      refine fr_iload_n (i := 2) (q := 2) rfl dX1_rounds_34 rfl ?_
      refine fr_if_le (tgt := 56) dX1_rounds_35 (by decide) rfl (fun hc => ?_) (fun hc => ?_)
      · have h := h.1 hc
        obtain ⟨y3, hy3⟩ : ∃ y : Int32, y = u3 + 1 := ⟨_, rfl⟩
        have h := h y3 hy3
        refine fr_iinc (q := 3) (v := y3) (lv' := [(3, .int y3), (0, rf g o), (1, .int u1), (2, .int u2)]) rfl (by rw [hy3]; rfl) dX1_rounds_56 rfl (by decide) rfl ?_
        refine fr_goto (n := 18) dX1_rounds_59 (by decide) ?_
        exact fr_sub [1, 2, 3, 0] rfl h
      · have h := h.2 hc
        refine fr_aload_n (i := 0) (q := 0) rfl dX1_rounds_38 rfl ?_
        refine fr_aload_n (i := 0) (q := 0) rfl dX1_rounds_39 rfl ?_
        refine fr_getR dX1_rounds_40 rfl fl_X1_15 k_o r_o_state ?_
        refine fr_getR dX1_rounds_43 rfl fl_X1_27 k_o_state r_o_state_taps ?_
        refine fr_iload_n (i := 3) (q := 3) rfl dX1_rounds_46 rfl ?_
        refine fr_iload_n (i := 2) (q := 2) rfl dX1_rounds_47 rfl ?_
        obtain ⟨hz4, h⟩ := h
        refine fr_irem hz4 dX1_rounds_48 rfl ?_
        obtain ⟨v5, hc6, h⟩ := h
        refine fr_callV2 (ν := mu_X2_at) (st2 := [.int v5, rf g o]) (As := [.int (u3 - u3 / u2 * u2)]) (st := [rf g o]) (v := (some (.int v5))) (M1 := (Z, I, L)) dX1_rounds_49 rfl ml_X1_43 mo_X2_at mi_X2_at (ci := 2) rfl rfl k_o_state_taps (Nat.le_of_ble_eq_true rfl) rfl rfl (Nat.le_of_ble_eq_true rfl) hc6 rfl ?_
        refine fr_iload_n (i := 1) (q := 1) rfl dX1_rounds_52 rfl ?_
        obtain ⟨I7, L8, hc9, h⟩ := h
        refine fr_callV2 (ν := mu_X1_oneRound) (st2 := []) (As := [.int v5, .int u1]) (st := []) (v := none) (M1 := (Z, I7, L8)) dX1_rounds_53 rfl ml_X1_47 mo_X1_oneRound mi_X1_oneRound (ci := 1) rfl rfl k_o (Nat.le_of_ble_eq_true rfl) rfl rfl (Nat.le_of_ble_eq_true rfl) hc9 rfl ?_
        obtain ⟨y10, hy10⟩ : ∃ y : Int32, y = u3 + 1 := ⟨_, rfl⟩
        have h := h y10 hy10
        refine fr_iinc (q := 3) (v := y10) (lv' := [(3, .int y10), (0, rf g o), (1, .int u1), (2, .int u2)]) rfl (by rw [hy10]; rfl) dX1_rounds_56 rfl (by decide) rfl ?_
        refine fr_goto (n := 18) dX1_rounds_59 (by decide) ?_
        exact fr_sub [1, 2, 3, 0] rfl h
    · have h := h.2 hc
      refine fr_iload_n (i := 3) (q := 3) rfl dX1_rounds_32 rfl ?_
      exact fr_iret rfl dX1_rounds_33 h.1 h.2
abbrev Lp_X1_begin_21 (g : GE) (d : Nat) (o : Nat) (u1 : Int32) (u2 : Int32) (M : Mem) (r : Option Value) (M' : Mem) : Prop := Fr g d mu_X1_begin 21 [(0, rf g o), (1, .int u1), (2, .int u2)] [] M r M'
theorem cp_X1_begin {g : GE} {Z : Zs} {I : Nat → Nat → Int32} {L : Nat → Nat → Int64} {r : Option Value} {M' : Mem} {o : Nat} {x1 : Int32} {o_state : Nat} {o_state_poses : Nat} (k_o : KM Z o 1) (r_o_state : Z.2.1 o 0 = some o_state) (k_o_state : KM Z o_state 8) (r_o_state_poses : Z.2.1 o_state 3 = some o_state_poses) (k_o_state_poses : KM Z o_state_poses 2) (h : (∃ (v1 : Int32), Cl g 1 mu_X2_size [rf g o_state_poses] (Z, I, L) (some (.int v1)) (Z, I, L) ∧ (∀ I3 : Nat → Nat → Int32, I3 = rw1 I o (upd (I o) 3 (if 6 < v1 then 6 else v1)) → Lp_X1_begin_21 g 2 o x1 0 (Z, I3, L) r M'))) : Cl g 2 mu_X1_begin [rf g o, .int x1] (Z, I, L) r M' := by
  refine cl_of (lv := [(0, rf g o), (1, .int x1)]) (by decide) (Nat.le_of_ble_eq_true rfl) rfl ?_
  refine fr_aload_n (i := 0) (q := 0) rfl dX1_begin_0 rfl ?_
  refine fr_aload_n (i := 0) (q := 0) rfl dX1_begin_1 rfl ?_
  refine fr_getR dX1_begin_2 rfl fl_X1_15 k_o r_o_state ?_
  refine fr_getR dX1_begin_5 rfl fl_X1_51 k_o_state r_o_state_poses ?_
  obtain ⟨v1, hc2, h⟩ := h
  refine fr_callV2 (ν := mu_X2_size) (st2 := [.int v1, rf g o]) (As := []) (st := [rf g o]) (v := (some (.int v1))) (M1 := (Z, I, L)) dX1_begin_8 rfl ml_X1_33 mo_X2_size mi_X2_size (ci := 2) rfl rfl k_o_state_poses (Nat.le_of_ble_eq_true rfl) rfl rfl (Nat.le_of_ble_eq_true rfl) hc2 rfl ?_
  refine fr_bipush (v := 6) (by decide) dX1_begin_11 rfl ?_
  refine fr_mmin dX1_begin_13 rfl ml_X1_53 w_mmin (Nat.le_of_ble_eq_true rfl) (Nat.le_of_ble_eq_true rfl) ?_
  refine fr_putI dX1_begin_16 rfl fp_X1_59 k_o ?_
  refine fr_memI (fun I3 hI3 => ?_)
  have h := h I3 hI3
  refine fr_iconst (v := 0) (by decide) dX1_begin_19 rfl ?_
  refine fr_istore_n (i := 2) (lv' := [(2, .int 0), (0, rf g o), (1, .int x1)]) dX1_begin_20 rfl (by decide) rfl ?_
  exact fr_sub [1, 2, 0] rfl h
theorem wp_X1_begin_21 {g : GE} {Z : Zs} {I : Nat → Nat → Int32} {L : Nat → Nat → Int64} {r : Option Value} {M' : Mem} {o : Nat} {u1 : Int32} {u2 : Int32} {o_poses : Nat} {o_state : Nat} {o_state_poses : Nat} (k_o : KM Z o 1) (r_o_poses : Z.2.1 o 2 = some o_poses) (k_o_poses : KM Z o_poses 13) (r_o_state : Z.2.1 o 0 = some o_state) (k_o_state : KM Z o_state 8) (r_o_state_poses : Z.2.1 o_state 3 = some o_state_poses) (k_o_state_poses : KM Z o_state_poses 2) (h : (((I o 3) ≤ u2 → (r = none ∧ M' = (Z, I, L))) ∧ (¬ (I o 3) ≤ u2 → (∃ (v1 : Int32), Cl g 1 mu_X2_at [rf g o_state_poses, .int u2] (Z, I, L) (some (.int v1)) (Z, I, L) ∧ (∃ (v3 : Int32), Cl g 1 mu_X1_unlessHome [.int v1, .int u1] (Z, I, L) (some (.int v3)) (Z, I, L) ∧ (vp_in u2 (Z.2.2.1 o_poses) ∧ (∀ I6 : Nat → Nat → Int32, I6 = rw1 I o_poses (upd (I o_poses) u2.toNatClampNeg v3) → (∀ y7 : Int32, y7 = (u2 + 1) → Lp_X1_begin_21 g 2 o u1 y7 (Z, I6, L) r M')))))))) : Lp_X1_begin_21 g 2 o u1 u2 (Z, I, L) r M' := by
  refine fr_iload_n (i := 2) (q := 2) rfl dX1_begin_21 rfl ?_
  refine fr_aload_n (i := 0) (q := 0) rfl dX1_begin_22 rfl ?_
  refine fr_getI dX1_begin_23 rfl fl_X1_59 k_o ?_
  refine fr_icmp_ge (tgt := 56) dX1_begin_26 (by decide) rfl (fun hc => ?_) (fun hc => ?_)
  · have h := h.1 hc
    exact fr_vret rfl dX1_begin_56 h.1 h.2
  · have h := h.2 hc
    refine fr_aload_n (i := 0) (q := 0) rfl dX1_begin_29 rfl ?_
    refine fr_getR dX1_begin_30 rfl fl_X1_9 k_o r_o_poses ?_
    refine fr_iload_n (i := 2) (q := 2) rfl dX1_begin_33 rfl ?_
    refine fr_aload_n (i := 0) (q := 0) rfl dX1_begin_34 rfl ?_
    refine fr_getR dX1_begin_35 rfl fl_X1_15 k_o r_o_state ?_
    refine fr_getR dX1_begin_38 rfl fl_X1_51 k_o_state r_o_state_poses ?_
    refine fr_iload_n (i := 2) (q := 2) rfl dX1_begin_41 rfl ?_
    obtain ⟨v1, hc2, h⟩ := h
    refine fr_callV2 (ν := mu_X2_at) (st2 := [.int v1, .int u2, rf g o_poses]) (As := [.int u2]) (st := [.int u2, rf g o_poses]) (v := (some (.int v1))) (M1 := (Z, I, L)) dX1_begin_42 rfl ml_X1_43 mo_X2_at mi_X2_at (ci := 2) rfl rfl k_o_state_poses (Nat.le_of_ble_eq_true rfl) rfl rfl (Nat.le_of_ble_eq_true rfl) hc2 rfl ?_
    refine fr_iload_n (i := 1) (q := 1) rfl dX1_begin_45 rfl ?_
    obtain ⟨v3, hc4, h⟩ := h
    refine fr_callS2 (ν := mu_X1_unlessHome) (st2 := [.int v3, .int u2, rf g o_poses]) (As := [.int v1, .int u1]) (st := [.int u2, rf g o_poses]) (v := (some (.int v3))) (M1 := (Z, I, L)) dX1_begin_46 rfl ml_X1_63 mo_X1_unlessHome ms_X1_unlessHome (Nat.le_of_ble_eq_true rfl) rfl rfl (Nat.le_of_ble_eq_true rfl) hc4 rfl ?_
    obtain ⟨hz5, h⟩ := h
    refine fr_iast dX1_begin_49 rfl k_o_poses hz5 ?_
    refine fr_memI (fun I6 hI6 => ?_)
    have h := h I6 hI6
    obtain ⟨y7, hy7⟩ : ∃ y : Int32, y = u2 + 1 := ⟨_, rfl⟩
    have h := h y7 hy7
    refine fr_iinc (q := 2) (v := y7) (lv' := [(2, .int y7), (0, rf g o), (1, .int u1)]) rfl (by rw [hy7]; rfl) dX1_begin_50 rfl (by decide) rfl ?_
    refine fr_goto (n := 21) dX1_begin_53 (by decide) ?_
    exact fr_sub [1, 2, 0] rfl h
theorem cp_X1_unlessHome {g : GE} {Z : Zs} {I : Nat → Nat → Int32} {L : Nat → Nat → Int64} {r : Option Value} {M' : Mem} {x0 : Int32} {x1 : Int32}  (h : ((¬ (x0 / 4) = x1 → (r = some (.int x0) ∧ M' = (Z, I, L))) ∧ ((x0 / 4) = x1 → (r = some (.int ((-1))) ∧ M' = (Z, I, L))))) : Cl g 1 mu_X1_unlessHome [.int x0, .int x1] (Z, I, L) r M' := by
  refine cl_of (lv := [(0, .int x0), (1, .int x1)]) (by decide) (Nat.le_of_ble_eq_true rfl) rfl ?_
  refine fr_iload_n (i := 0) (q := 0) rfl dX1_unlessHome_0 rfl ?_
  refine fr_iconst (v := 4) (by decide) dX1_unlessHome_1 rfl ?_
  refine fr_idiv (by decide) dX1_unlessHome_2 rfl ?_
  refine fr_iload_n (i := 1) (q := 1) rfl dX1_unlessHome_3 rfl ?_
  refine fr_icmp_ne (tgt := 11) dX1_unlessHome_4 (by decide) rfl (fun hc => ?_) (fun hc => ?_)
  · have h := h.1 hc
    refine fr_iload_n (i := 0) (q := 0) rfl dX1_unlessHome_11 rfl ?_
    exact fr_iret rfl dX1_unlessHome_12 h.1 h.2
  · have h := h.2 hc
    refine fr_iconst (v := (-1)) (by decide) dX1_unlessHome_7 rfl ?_
    refine fr_goto (n := 12) dX1_unlessHome_8 (by decide) ?_
    exact fr_iret rfl dX1_unlessHome_12 h.1 h.2
abbrev Lp_X1_isEmpty_2 (g : GE) (d : Nat) (o : Nat) (u1 : Int32) (M : Mem) (r : Option Value) (M' : Mem) : Prop := Fr g d mu_X1_isEmpty 2 [(0, rf g o), (1, .int u1)] [] M r M'
theorem cp_X1_isEmpty {g : GE} {Z : Zs} {I : Nat → Nat → Int32} {L : Nat → Nat → Int64} {r : Option Value} {M' : Mem} {o : Nat} (k_o : KM Z o 1) (h : Lp_X1_isEmpty_2 g 1 o 0 (Z, I, L) r M') : Cl g 1 mu_X1_isEmpty [rf g o] (Z, I, L) r M' := by
  refine cl_of (lv := [(0, rf g o)]) (by decide) (Nat.le_of_ble_eq_true rfl) rfl ?_
  refine fr_iconst (v := 0) (by decide) dX1_isEmpty_0 rfl ?_
  refine fr_istore_n (i := 1) (lv' := [(1, .int 0), (0, rf g o)]) dX1_isEmpty_1 rfl (by decide) rfl ?_
  exact fr_sub [1, 0] rfl h
theorem wp_X1_isEmpty_2 {g : GE} {Z : Zs} {I : Nat → Nat → Int32} {L : Nat → Nat → Int64} {r : Option Value} {M' : Mem} {o : Nat} {u1 : Int32} {o_poses : Nat} (k_o : KM Z o 1) (r_o_poses : Z.2.1 o 2 = some o_poses) (k_o_poses : KM Z o_poses 13) (h : (((I o 3) ≤ u1 → (r = some (.int 1) ∧ M' = (Z, I, L))) ∧ (¬ (I o 3) ≤ u1 → (vp_in u1 (Z.2.2.1 o_poses) ∧ (((I o_poses u1.toNatClampNeg) = ((-1)) → (∀ y2 : Int32, y2 = (u1 + 1) → Lp_X1_isEmpty_2 g 1 o y2 (Z, I, L) r M')) ∧ (¬ (I o_poses u1.toNatClampNeg) = ((-1)) → (r = some (.int 0) ∧ M' = (Z, I, L)))))))) : Lp_X1_isEmpty_2 g 1 o u1 (Z, I, L) r M' := by
  refine fr_iload_n (i := 1) (q := 1) rfl dX1_isEmpty_2 rfl ?_
  refine fr_aload_n (i := 0) (q := 0) rfl dX1_isEmpty_3 rfl ?_
  refine fr_getI dX1_isEmpty_4 rfl fl_X1_59 k_o ?_
  refine fr_icmp_ge (tgt := 28) dX1_isEmpty_7 (by decide) rfl (fun hc => ?_) (fun hc => ?_)
  · have h := h.1 hc
    refine fr_iconst (v := 1) (by decide) dX1_isEmpty_28 rfl ?_
    exact fr_zret (by decide) rfl dX1_isEmpty_29 h.1 h.2
  · have h := h.2 hc
    refine fr_aload_n (i := 0) (q := 0) rfl dX1_isEmpty_10 rfl ?_
    refine fr_getR dX1_isEmpty_11 rfl fl_X1_9 k_o r_o_poses ?_
    refine fr_iload_n (i := 1) (q := 1) rfl dX1_isEmpty_14 rfl ?_
    obtain ⟨hz1, h⟩ := h
    refine fr_iald dX1_isEmpty_15 rfl k_o_poses hz1 ?_
    refine fr_iconst (v := (-1)) (by decide) dX1_isEmpty_16 rfl ?_
    refine fr_icmp_eq (tgt := 22) dX1_isEmpty_17 (by decide) rfl (fun hc => ?_) (fun hc => ?_)
    · have h := h.1 hc
      obtain ⟨y2, hy2⟩ : ∃ y : Int32, y = u1 + 1 := ⟨_, rfl⟩
      have h := h y2 hy2
      refine fr_iinc (q := 1) (v := y2) (lv' := [(1, .int y2), (0, rf g o)]) rfl (by rw [hy2]; rfl) dX1_isEmpty_22 rfl (by decide) rfl ?_
      refine fr_goto (n := 2) dX1_isEmpty_25 (by decide) ?_
      exact fr_sub [1, 0] rfl h
    · have h := h.2 hc
      refine fr_iconst (v := 0) (by decide) dX1_isEmpty_20 rfl ?_
      exact fr_zret (by decide) rfl dX1_isEmpty_21 h.1 h.2
abbrev Lp_X1_oneRound_2 (g : GE) (d : Nat) (o : Nat) (u1 : Int32) (u2 : Int32) (u3 : Int32) (M : Mem) (r : Option Value) (M' : Mem) : Prop := Fr g d mu_X1_oneRound 2 [(0, rf g o), (1, .int u1), (2, .int u2), (3, .int u3)] [] M r M'
theorem cp_X1_oneRound {g : GE} {Z : Zs} {I : Nat → Nat → Int32} {L : Nat → Nat → Int64} {r : Option Value} {M' : Mem} {o : Nat} {x1 : Int32} {x2 : Int32} (k_o : KM Z o 1) (h : Lp_X1_oneRound_2 g 6 o x1 x2 0 (Z, I, L) r M') : Cl g 6 mu_X1_oneRound [rf g o, .int x1, .int x2] (Z, I, L) r M' := by
  refine cl_of (lv := [(0, rf g o), (1, .int x1), (2, .int x2)]) (by decide) (Nat.le_of_ble_eq_true rfl) rfl ?_
  refine fr_iconst (v := 0) (by decide) dX1_oneRound_0 rfl ?_
  refine fr_istore_n (i := 3) (lv' := [(3, .int 0), (0, rf g o), (1, .int x1), (2, .int x2)]) dX1_oneRound_1 rfl (by decide) rfl ?_
  exact fr_sub [1, 2, 3, 0] rfl h
theorem wp_X1_oneRound_2 {g : GE} {Z : Zs} {I : Nat → Nat → Int32} {L : Nat → Nat → Int64} {r : Option Value} {M' : Mem} {o : Nat} {u1 : Int32} {u2 : Int32} {u3 : Int32} {o_poses : Nat} {o_legs : Nat} {o_state : Nat} {o_state_habits : Nat} (k_o : KM Z o 1) (r_o_poses : Z.2.1 o 2 = some o_poses) (k_o_poses : KM Z o_poses 13) (r_o_legs : Z.2.1 o 1 = some o_legs) (k_o_legs : KM Z o_legs 3) (r_o_state : Z.2.1 o 0 = some o_state) (k_o_state : KM Z o_state 8) (r_o_state_habits : Z.2.1 o_state 4 = some o_state_habits) (k_o_state_habits : KM Z o_state_habits 2) (h : (((I o 3) ≤ u3 → (r = none ∧ M' = (Z, I, L))) ∧ (¬ (I o 3) ≤ u3 → (vp_in u3 (Z.2.2.1 o_poses) ∧ ((¬ (I o_poses u3.toNatClampNeg) = ((-1)) → (∃ (v2 : Int32), Cl g 1 mu_X2_at [rf g o_state_habits, .int u3] (Z, I, L) (some (.int v2)) (Z, I, L) ∧ (vp_in u3 (Z.2.2.1 o_poses) ∧ (∃ (v5 : Int32) (I6 : Nat → Nat → Int32) (L7 : Nat → Nat → Int64), Cl g 5 mu_X3_step [rf g o_legs, .int v2, .int (I o_poses u3.toNatClampNeg), .int u1] (Z, I, L) (some (.int v5)) (Z, I6, L7) ∧ (∃ (v9 : Int32), Cl g 1 mu_X11_poseOf [.int v5] (Z, I6, L7) (some (.int v9)) (Z, I6, L7) ∧ (vp_in u3 (Z.2.2.1 o_poses) ∧ (((v9 / 4) = ((I6 o_poses u3.toNatClampNeg) / 4) → (∃ (v12 : Int32), Cl g 1 mu_X1_unlessHome [.int v9, .int u2] (Z, I6, L7) (some (.int v12)) (Z, I6, L7) ∧ (vp_in u3 (Z.2.2.1 o_poses) ∧ (∀ I15 : Nat → Nat → Int32, I15 = rw1 I6 o_poses (upd (I6 o_poses) u3.toNatClampNeg v12) → (∀ y16 : Int32, y16 = (u3 + 1) → Lp_X1_oneRound_2 g 6 o u1 u2 y16 (Z, I15, L7) r M'))))) ∧ (¬ (v9 / 4) = ((I6 o_poses u3.toNatClampNeg) / 4) → (∃ (v17 : Int32), Cl g 1 mu_X1_hasPairIn [rf g o, .int (v9 / 4)] (Z, I6, L7) (some (.int v17)) (Z, I6, L7) ∧ ((¬ v17 = 0 → (∀ y19 : Int32, y19 = (u3 + 1) → Lp_X1_oneRound_2 g 6 o u1 u2 y19 (Z, I6, L7) r M')) ∧ (v17 = 0 → (∃ (v20 : Int32), Cl g 1 mu_X1_unlessHome [.int v9, .int u2] (Z, I6, L7) (some (.int v20)) (Z, I6, L7) ∧ (vp_in u3 (Z.2.2.1 o_poses) ∧ (∀ I23 : Nat → Nat → Int32, I23 = rw1 I6 o_poses (upd (I6 o_poses) u3.toNatClampNeg v20) → (∀ y24 : Int32, y24 = (u3 + 1) → Lp_X1_oneRound_2 g 6 o u1 u2 y24 (Z, I23, L7) r M'))))))))))))))) ∧ ((I o_poses u3.toNatClampNeg) = ((-1)) → (∀ y25 : Int32, y25 = (u3 + 1) → Lp_X1_oneRound_2 g 6 o u1 u2 y25 (Z, I, L) r M'))))))) : Lp_X1_oneRound_2 g 6 o u1 u2 u3 (Z, I, L) r M' := by
  refine fr_iload_n (i := 3) (q := 3) rfl dX1_oneRound_2 rfl ?_
  refine fr_aload_n (i := 0) (q := 0) rfl dX1_oneRound_3 rfl ?_
  refine fr_getI dX1_oneRound_4 rfl fl_X1_59 k_o ?_
  refine fr_icmp_ge (tgt := 109) dX1_oneRound_7 (by decide) rfl (fun hc => ?_) (fun hc => ?_)
  · have h := h.1 hc
    exact fr_vret rfl dX1_oneRound_109 h.1 h.2
  · have h := h.2 hc
    refine fr_aload_n (i := 0) (q := 0) rfl dX1_oneRound_10 rfl ?_
    refine fr_getR dX1_oneRound_11 rfl fl_X1_9 k_o r_o_poses ?_
    refine fr_iload_n (i := 3) (q := 3) rfl dX1_oneRound_14 rfl ?_
    obtain ⟨hz1, h⟩ := h
    refine fr_iald dX1_oneRound_15 rfl k_o_poses hz1 ?_
    refine fr_iconst (v := (-1)) (by decide) dX1_oneRound_16 rfl ?_
    refine fr_icmp_ne (tgt := 23) dX1_oneRound_17 (by decide) rfl (fun hc => ?_) (fun hc => ?_)
    · have h := h.1 hc
      refine fr_aload_n (i := 0) (q := 0) rfl dX1_oneRound_23 rfl ?_
      refine fr_getR dX1_oneRound_24 rfl fl_X1_19 k_o r_o_legs ?_
      refine fr_aload_n (i := 0) (q := 0) rfl dX1_oneRound_27 rfl ?_
      refine fr_getR dX1_oneRound_28 rfl fl_X1_15 k_o r_o_state ?_
      refine fr_getR dX1_oneRound_31 rfl fl_X1_66 k_o_state r_o_state_habits ?_
      refine fr_iload_n (i := 3) (q := 3) rfl dX1_oneRound_34 rfl ?_
      obtain ⟨v2, hc3, h⟩ := h
      refine fr_callV2 (ν := mu_X2_at) (st2 := [.int v2, rf g o_legs]) (As := [.int u3]) (st := [rf g o_legs]) (v := (some (.int v2))) (M1 := (Z, I, L)) dX1_oneRound_35 rfl ml_X1_43 mo_X2_at mi_X2_at (ci := 2) rfl rfl k_o_state_habits (Nat.le_of_ble_eq_true rfl) rfl rfl (Nat.le_of_ble_eq_true rfl) hc3 rfl ?_
      refine fr_aload_n (i := 0) (q := 0) rfl dX1_oneRound_38 rfl ?_
      refine fr_getR dX1_oneRound_39 rfl fl_X1_9 k_o r_o_poses ?_
      refine fr_iload_n (i := 3) (q := 3) rfl dX1_oneRound_42 rfl ?_
      obtain ⟨hz4, h⟩ := h
      refine fr_iald dX1_oneRound_43 rfl k_o_poses hz4 ?_
      refine fr_iload_n (i := 1) (q := 1) rfl dX1_oneRound_44 rfl ?_
      obtain ⟨v5, I6, L7, hc8, h⟩ := h
      refine fr_callV2 (ν := mu_X3_step) (st2 := [.int v5]) (As := [.int v2, .int (I o_poses u3.toNatClampNeg), .int u1]) (st := []) (v := (some (.int v5))) (M1 := (Z, I6, L7)) dX1_oneRound_45 rfl ml_X1_69 mo_X3_step mi_X3_step (ci := 3) rfl rfl k_o_legs (Nat.le_of_ble_eq_true rfl) rfl rfl (Nat.le_of_ble_eq_true rfl) hc8 rfl ?_
      obtain ⟨v9, hc10, h⟩ := h
      refine fr_callSN2 (ν := mu_X11_poseOf) (st2 := [.int v9]) (As := [.int v5]) (st := []) (v := (some (.int v9))) (M1 := (Z, I6, L7)) dX1_oneRound_48 rfl (by decide) mo_X11_poseOf ms_X11_poseOf (Nat.le_of_ble_eq_true rfl) rfl rfl (Nat.le_of_ble_eq_true rfl) hc10 rfl ?_
      refine fr_istore (lv' := [(4, .int v9), (0, rf g o), (1, .int u1), (2, .int u2), (3, .int u3)]) dX1_oneRound_51 rfl (by decide) rfl ?_
      refine fr_iload (q := 0) rfl dX1_oneRound_53 rfl ?_
      refine fr_iconst (v := 4) (by decide) dX1_oneRound_55 rfl ?_
      refine fr_idiv (by decide) dX1_oneRound_56 rfl ?_
      refine fr_aload_n (i := 0) (q := 1) rfl dX1_oneRound_57 rfl ?_
      refine fr_getR dX1_oneRound_58 rfl fl_X1_9 k_o r_o_poses ?_
      refine fr_iload_n (i := 3) (q := 4) rfl dX1_oneRound_61 rfl ?_
      obtain ⟨hz11, h⟩ := h
      refine fr_iald dX1_oneRound_62 rfl k_o_poses hz11 ?_
      refine fr_iconst (v := 4) (by decide) dX1_oneRound_63 rfl ?_
      refine fr_idiv (by decide) dX1_oneRound_64 rfl ?_
      refine fr_icmp_eq (tgt := 72) dX1_oneRound_65 (by decide) rfl (fun hc => ?_) (fun hc => ?_)
      · have h := h.1 hc
        refine fr_iconst (v := 0) (by decide) dX1_oneRound_72 rfl ?_
        refine fr_istore (lv' := [(5, .int 0), (4, .int v9), (0, rf g o), (1, .int u1), (2, .int u2), (3, .int u3)]) dX1_oneRound_73 rfl (by decide) rfl ?_
        refine fr_iload (q := 0) rfl dX1_oneRound_75 rfl ?_
        refine fr_if_eq (tgt := 91) dX1_oneRound_77 (by decide) rfl (fun _ => ?_) (fun hc => absurd hc (by decide))
        refine fr_aload_n (i := 0) (q := 2) rfl dX1_oneRound_91 rfl ?_
        refine fr_getR dX1_oneRound_92 rfl fl_X1_9 k_o r_o_poses ?_
        refine fr_iload_n (i := 3) (q := 5) rfl dX1_oneRound_95 rfl ?_
        refine fr_iload (q := 1) rfl dX1_oneRound_96 rfl ?_
        refine fr_iload_n (i := 2) (q := 4) rfl dX1_oneRound_98 rfl ?_
        obtain ⟨v12, hc13, h⟩ := h
        refine fr_callS2 (ν := mu_X1_unlessHome) (st2 := [.int v12, .int u3, rf g o_poses]) (As := [.int v9, .int u2]) (st := [.int u3, rf g o_poses]) (v := (some (.int v12))) (M1 := (Z, I6, L7)) dX1_oneRound_99 rfl ml_X1_63 mo_X1_unlessHome ms_X1_unlessHome (Nat.le_of_ble_eq_true rfl) rfl rfl (Nat.le_of_ble_eq_true rfl) hc13 rfl ?_
        obtain ⟨hz14, h⟩ := h
        refine fr_iast dX1_oneRound_102 rfl k_o_poses hz14 ?_
        refine fr_memI (fun I15 hI15 => ?_)
        have h := h I15 hI15
        obtain ⟨y16, hy16⟩ : ∃ y : Int32, y = u3 + 1 := ⟨_, rfl⟩
        have h := h y16 hy16
        refine fr_iinc (q := 5) (v := y16) (lv' := [(3, .int y16), (5, .int 0), (4, .int v9), (0, rf g o), (1, .int u1), (2, .int u2)]) rfl (by rw [hy16]; rfl) dX1_oneRound_103 rfl (by decide) rfl ?_
        refine fr_goto (n := 2) dX1_oneRound_106 (by decide) ?_
        exact fr_sub [3, 4, 5, 0] rfl h
      · have h := h.2 hc
        refine fr_iconst (v := 1) (by decide) dX1_oneRound_68 rfl ?_
        refine fr_goto (n := 73) dX1_oneRound_69 (by decide) ?_
        refine fr_istore (lv' := [(5, .int 1), (4, .int v9), (0, rf g o), (1, .int u1), (2, .int u2), (3, .int u3)]) dX1_oneRound_73 rfl (by decide) rfl ?_
        refine fr_iload (q := 0) rfl dX1_oneRound_75 rfl ?_
        refine fr_if_eq (tgt := 91) dX1_oneRound_77 (by decide) rfl (fun hc => absurd hc (by decide)) (fun _ => ?_)
        refine fr_aload_n (i := 0) (q := 2) rfl dX1_oneRound_80 rfl ?_
        refine fr_iload (q := 1) rfl dX1_oneRound_81 rfl ?_
        refine fr_iconst (v := 4) (by decide) dX1_oneRound_83 rfl ?_
        refine fr_idiv (by decide) dX1_oneRound_84 rfl ?_
        obtain ⟨v17, hc18, h⟩ := h
        refine fr_callV2 (ν := mu_X1_hasPairIn) (st2 := [.int v17]) (As := [.int (v9 / 4)]) (st := []) (v := (some (.int v17))) (M1 := (Z, I6, L7)) dX1_oneRound_85 rfl ml_X1_78 mo_X1_hasPairIn mi_X1_hasPairIn (ci := 1) rfl rfl k_o (Nat.le_of_ble_eq_true rfl) rfl rfl (Nat.le_of_ble_eq_true rfl) hc18 rfl ?_
        refine fr_if_ne (tgt := 103) dX1_oneRound_88 (by decide) rfl (fun hc => ?_) (fun hc => ?_)
        · have h := h.1 hc
          obtain ⟨y19, hy19⟩ : ∃ y : Int32, y = u3 + 1 := ⟨_, rfl⟩
          have h := h y19 hy19
          refine fr_iinc (q := 5) (v := y19) (lv' := [(3, .int y19), (5, .int 1), (4, .int v9), (0, rf g o), (1, .int u1), (2, .int u2)]) rfl (by rw [hy19]; rfl) dX1_oneRound_103 rfl (by decide) rfl ?_
          refine fr_goto (n := 2) dX1_oneRound_106 (by decide) ?_
          exact fr_sub [3, 4, 5, 0] rfl h
        · have h := h.2 hc
          refine fr_aload_n (i := 0) (q := 2) rfl dX1_oneRound_91 rfl ?_
          refine fr_getR dX1_oneRound_92 rfl fl_X1_9 k_o r_o_poses ?_
          refine fr_iload_n (i := 3) (q := 5) rfl dX1_oneRound_95 rfl ?_
          refine fr_iload (q := 1) rfl dX1_oneRound_96 rfl ?_
          refine fr_iload_n (i := 2) (q := 4) rfl dX1_oneRound_98 rfl ?_
          obtain ⟨v20, hc21, h⟩ := h
          refine fr_callS2 (ν := mu_X1_unlessHome) (st2 := [.int v20, .int u3, rf g o_poses]) (As := [.int v9, .int u2]) (st := [.int u3, rf g o_poses]) (v := (some (.int v20))) (M1 := (Z, I6, L7)) dX1_oneRound_99 rfl ml_X1_63 mo_X1_unlessHome ms_X1_unlessHome (Nat.le_of_ble_eq_true rfl) rfl rfl (Nat.le_of_ble_eq_true rfl) hc21 rfl ?_
          obtain ⟨hz22, h⟩ := h
          refine fr_iast dX1_oneRound_102 rfl k_o_poses hz22 ?_
          refine fr_memI (fun I23 hI23 => ?_)
          have h := h I23 hI23
          obtain ⟨y24, hy24⟩ : ∃ y : Int32, y = u3 + 1 := ⟨_, rfl⟩
          have h := h y24 hy24
          refine fr_iinc (q := 5) (v := y24) (lv' := [(3, .int y24), (5, .int 1), (4, .int v9), (0, rf g o), (1, .int u1), (2, .int u2)]) rfl (by rw [hy24]; rfl) dX1_oneRound_103 rfl (by decide) rfl ?_
          refine fr_goto (n := 2) dX1_oneRound_106 (by decide) ?_
          exact fr_sub [3, 4, 5, 0] rfl h
    · have h := h.2 hc
      refine fr_goto (n := 103) dX1_oneRound_20 (by decide) ?_
      obtain ⟨y25, hy25⟩ : ∃ y : Int32, y = u3 + 1 := ⟨_, rfl⟩
      have h := h y25 hy25
      refine fr_iinc (q := 3) (v := y25) (lv' := [(3, .int y25), (0, rf g o), (1, .int u1), (2, .int u2)]) rfl (by rw [hy25]; rfl) dX1_oneRound_103 rfl (by decide) rfl ?_
      refine fr_goto (n := 2) dX1_oneRound_106 (by decide) ?_
      exact fr_sub [1, 2, 3, 0] rfl h
abbrev Lp_X1_hasPairIn_2 (g : GE) (d : Nat) (o : Nat) (u1 : Int32) (u2 : Int32) (M : Mem) (r : Option Value) (M' : Mem) : Prop := Fr g d mu_X1_hasPairIn 2 [(0, rf g o), (1, .int u1), (2, .int u2)] [] M r M'
theorem cp_X1_hasPairIn {g : GE} {Z : Zs} {I : Nat → Nat → Int32} {L : Nat → Nat → Int64} {r : Option Value} {M' : Mem} {o : Nat} {x1 : Int32} (k_o : KM Z o 1) (h : Lp_X1_hasPairIn_2 g 1 o x1 0 (Z, I, L) r M') : Cl g 1 mu_X1_hasPairIn [rf g o, .int x1] (Z, I, L) r M' := by
  refine cl_of (lv := [(0, rf g o), (1, .int x1)]) (by decide) (Nat.le_of_ble_eq_true rfl) rfl ?_
  refine fr_iconst (v := 0) (by decide) dX1_hasPairIn_0 rfl ?_
  refine fr_istore_n (i := 2) (lv' := [(2, .int 0), (0, rf g o), (1, .int x1)]) dX1_hasPairIn_1 rfl (by decide) rfl ?_
  exact fr_sub [1, 2, 0] rfl h
theorem wp_X1_hasPairIn_2 {g : GE} {Z : Zs} {I : Nat → Nat → Int32} {L : Nat → Nat → Int64} {r : Option Value} {M' : Mem} {o : Nat} {u1 : Int32} {u2 : Int32} {o_poses : Nat} (k_o : KM Z o 1) (r_o_poses : Z.2.1 o 2 = some o_poses) (k_o_poses : KM Z o_poses 13) (h : (((I o 3) ≤ u2 → (r = some (.int 0) ∧ M' = (Z, I, L))) ∧ (¬ (I o 3) ≤ u2 → (vp_in u2 (Z.2.2.1 o_poses) ∧ (((I o_poses u2.toNatClampNeg) = ((-1)) → (∀ y2 : Int32, y2 = (u2 + 1) → Lp_X1_hasPairIn_2 g 1 o u1 y2 (Z, I, L) r M')) ∧ (¬ (I o_poses u2.toNatClampNeg) = ((-1)) → (vp_in u2 (Z.2.2.1 o_poses) ∧ ((¬ ((I o_poses u2.toNatClampNeg) / 4) = u1 → (∀ y4 : Int32, y4 = (u2 + 1) → Lp_X1_hasPairIn_2 g 1 o u1 y4 (Z, I, L) r M')) ∧ (((I o_poses u2.toNatClampNeg) / 4) = u1 → (r = some (.int 1) ∧ M' = (Z, I, L))))))))))) : Lp_X1_hasPairIn_2 g 1 o u1 u2 (Z, I, L) r M' := by
  refine fr_iload_n (i := 2) (q := 2) rfl dX1_hasPairIn_2 rfl ?_
  refine fr_aload_n (i := 0) (q := 0) rfl dX1_hasPairIn_3 rfl ?_
  refine fr_getI dX1_hasPairIn_4 rfl fl_X1_59 k_o ?_
  refine fr_icmp_ge (tgt := 40) dX1_hasPairIn_7 (by decide) rfl (fun hc => ?_) (fun hc => ?_)
  · have h := h.1 hc
    refine fr_iconst (v := 0) (by decide) dX1_hasPairIn_40 rfl ?_
    exact fr_zret (by decide) rfl dX1_hasPairIn_41 h.1 h.2
  · have h := h.2 hc
    refine fr_aload_n (i := 0) (q := 0) rfl dX1_hasPairIn_10 rfl ?_
    refine fr_getR dX1_hasPairIn_11 rfl fl_X1_9 k_o r_o_poses ?_
    refine fr_iload_n (i := 2) (q := 2) rfl dX1_hasPairIn_14 rfl ?_
    obtain ⟨hz1, h⟩ := h
    refine fr_iald dX1_hasPairIn_15 rfl k_o_poses hz1 ?_
    refine fr_iconst (v := (-1)) (by decide) dX1_hasPairIn_16 rfl ?_
    refine fr_icmp_eq (tgt := 34) dX1_hasPairIn_17 (by decide) rfl (fun hc => ?_) (fun hc => ?_)
    · have h := h.1 hc
      obtain ⟨y2, hy2⟩ : ∃ y : Int32, y = u2 + 1 := ⟨_, rfl⟩
      have h := h y2 hy2
      refine fr_iinc (q := 2) (v := y2) (lv' := [(2, .int y2), (0, rf g o), (1, .int u1)]) rfl (by rw [hy2]; rfl) dX1_hasPairIn_34 rfl (by decide) rfl ?_
      refine fr_goto (n := 2) dX1_hasPairIn_37 (by decide) ?_
      exact fr_sub [1, 2, 0] rfl h
    · have h := h.2 hc
      refine fr_aload_n (i := 0) (q := 0) rfl dX1_hasPairIn_20 rfl ?_
      refine fr_getR dX1_hasPairIn_21 rfl fl_X1_9 k_o r_o_poses ?_
      refine fr_iload_n (i := 2) (q := 2) rfl dX1_hasPairIn_24 rfl ?_
      obtain ⟨hz3, h⟩ := h
      refine fr_iald dX1_hasPairIn_25 rfl k_o_poses hz3 ?_
      refine fr_iconst (v := 4) (by decide) dX1_hasPairIn_26 rfl ?_
      refine fr_idiv (by decide) dX1_hasPairIn_27 rfl ?_
      refine fr_iload_n (i := 1) (q := 1) rfl dX1_hasPairIn_28 rfl ?_
      refine fr_icmp_ne (tgt := 34) dX1_hasPairIn_29 (by decide) rfl (fun hc => ?_) (fun hc => ?_)
      · have h := h.1 hc
        obtain ⟨y4, hy4⟩ : ∃ y : Int32, y = u2 + 1 := ⟨_, rfl⟩
        have h := h y4 hy4
        refine fr_iinc (q := 2) (v := y4) (lv' := [(2, .int y4), (0, rf g o), (1, .int u1)]) rfl (by rw [hy4]; rfl) dX1_hasPairIn_34 rfl (by decide) rfl ?_
        refine fr_goto (n := 2) dX1_hasPairIn_37 (by decide) ?_
        exact fr_sub [1, 2, 0] rfl h
      · have h := h.2 hc
        refine fr_iconst (v := 1) (by decide) dX1_hasPairIn_32 rfl ?_
        exact fr_zret (by decide) rfl dX1_hasPairIn_33 h.1 h.2
abbrev Lp_X0_turns_60 (g : GE) (d : Nat) (o : Nat) (u5 : Int32) (u6 : Int32) (M : Mem) (r : Option Value) (M' : Mem) : Prop := Fr g d mu_X0_turns 60 [(0, rf g o), (5, .int u5), (6, .int u6)] [] M r M'
theorem cp_X0_turns {g : GE} {Z : Zs} {I : Nat → Nat → Int32} {L : Nat → Nat → Int64} {r : Option Value} {M' : Mem} {o : Nat} {x1 : Int32} {x2 : Int32} {x3 : Int32} {x4 : Int32} {o_catcherFirst : Nat} {o_catcherFrom : Nat} {o_thiefFirst : Nat} {o_thiefFrom : Nat} (k_o : KM Z o 0) (r_o_catcherFirst : Z.2.1 o 7 = some o_catcherFirst) (k_o_catcherFirst : KM Z o_catcherFirst 13) (r_o_catcherFrom : Z.2.1 o 8 = some o_catcherFrom) (k_o_catcherFrom : KM Z o_catcherFrom 13) (r_o_thiefFirst : Z.2.1 o 9 = some o_thiefFirst) (k_o_thiefFirst : KM Z o_thiefFirst 13) (r_o_thiefFrom : Z.2.1 o 10 = some o_thiefFrom) (k_o_thiefFrom : KM Z o_thiefFrom 13) (h : (∃ (I1 : Nat → Nat → Int32) (L2 : Nat → Nat → Int64), Cl g 6 mu_X0_link [rf g o, .int x1, rf g o_catcherFirst, rf g o_catcherFrom] (Z, I, L) none (Z, I1, L2) ∧ (∃ (I4 : Nat → Nat → Int32) (L5 : Nat → Nat → Int64), Cl g 6 mu_X0_link [rf g o, .int x3, rf g o_thiefFirst, rf g o_thiefFrom] (Z, I1, L2) none (Z, I4, L5) ∧ (∃ (I7 : Nat → Nat → Int32) (L8 : Nat → Nat → Int64), Cl g 3 mu_X0_begin [rf g o] (Z, I4, L5) none (Z, I7, L8) ∧ (∀ y10 : Int32, y10 = ((x2 * (I7 o 2)) + x4) → ((y10 < 0 → (r = some (.int ((-1))) ∧ M' = (Z, I7, L8))) ∧ (¬ y10 < 0 → ((y10 < (I7 o 3) → Lp_X0_turns_60 g 7 o y10 0 (Z, I7, L8) r M') ∧ (¬ y10 < (I7 o 3) → (r = some (.int ((-1))) ∧ M' = (Z, I7, L8))))))))))) : Cl g 7 mu_X0_turns [rf g o, .int x1, .int x2, .int x3, .int x4] (Z, I, L) r M' := by
  refine cl_of (lv := [(0, rf g o), (1, .int x1), (2, .int x2), (3, .int x3), (4, .int x4)]) (by decide) (Nat.le_of_ble_eq_true rfl) rfl ?_
  refine fr_aload_n (i := 0) (q := 0) rfl dX0_turns_0 rfl ?_
  refine fr_iload_n (i := 1) (q := 1) rfl dX0_turns_1 rfl ?_
  refine fr_aload_n (i := 0) (q := 0) rfl dX0_turns_2 rfl ?_
  refine fr_getR dX0_turns_3 rfl fl_X0_39 k_o r_o_catcherFirst ?_
  refine fr_aload_n (i := 0) (q := 0) rfl dX0_turns_6 rfl ?_
  refine fr_getR dX0_turns_7 rfl fl_X0_42 k_o r_o_catcherFrom ?_
  obtain ⟨I1, L2, hc3, h⟩ := h
  refine fr_callV2 (ν := mu_X0_link) (st2 := []) (As := [.int x1, rf g o_catcherFirst, rf g o_catcherFrom]) (st := []) (v := none) (M1 := (Z, I1, L2)) dX0_turns_10 rfl ml_X0_51 mo_X0_link mi_X0_link (ci := 0) rfl rfl k_o (Nat.le_of_ble_eq_true rfl) rfl rfl (Nat.le_of_ble_eq_true rfl) hc3 rfl ?_
  refine fr_aload_n (i := 0) (q := 0) rfl dX0_turns_13 rfl ?_
  refine fr_iload_n (i := 3) (q := 3) rfl dX0_turns_14 rfl ?_
  refine fr_aload_n (i := 0) (q := 0) rfl dX0_turns_15 rfl ?_
  refine fr_getR dX0_turns_16 rfl fl_X0_45 k_o r_o_thiefFirst ?_
  refine fr_aload_n (i := 0) (q := 0) rfl dX0_turns_19 rfl ?_
  refine fr_getR dX0_turns_20 rfl fl_X0_48 k_o r_o_thiefFrom ?_
  obtain ⟨I4, L5, hc6, h⟩ := h
  refine fr_callV2 (ν := mu_X0_link) (st2 := []) (As := [.int x3, rf g o_thiefFirst, rf g o_thiefFrom]) (st := []) (v := none) (M1 := (Z, I4, L5)) dX0_turns_23 rfl ml_X0_51 mo_X0_link mi_X0_link (ci := 0) rfl rfl k_o (Nat.le_of_ble_eq_true rfl) rfl rfl (Nat.le_of_ble_eq_true rfl) hc6 rfl ?_
  refine fr_aload_n (i := 0) (q := 0) rfl dX0_turns_26 rfl ?_
  obtain ⟨I7, L8, hc9, h⟩ := h
  refine fr_callV2 (ν := mu_X0_begin) (st2 := []) (As := []) (st := []) (v := none) (M1 := (Z, I7, L8)) dX0_turns_27 rfl ml_X0_55 mo_X0_begin mi_X0_begin (ci := 0) rfl rfl k_o (Nat.le_of_ble_eq_true rfl) rfl rfl (Nat.le_of_ble_eq_true rfl) hc9 rfl ?_
  refine fr_iload_n (i := 2) (q := 2) rfl dX0_turns_30 rfl ?_
  refine fr_aload_n (i := 0) (q := 0) rfl dX0_turns_31 rfl ?_
  refine fr_getI dX0_turns_32 rfl fl_X0_25 k_o ?_
  refine fr_imul dX0_turns_35 rfl ?_
  refine fr_iload (q := 4) rfl dX0_turns_36 rfl ?_
  refine fr_iadd dX0_turns_38 rfl ?_
  refine fr_topi (fun y10 hy10 => ?_)
  have h := h y10 hy10
  refine fr_istore (lv' := [(5, .int y10), (0, rf g o), (1, .int x1), (2, .int x2), (3, .int x3), (4, .int x4)]) dX0_turns_39 rfl (by decide) rfl ?_
  refine fr_iload (q := 0) rfl dX0_turns_41 rfl ?_
  refine fr_if_lt (tgt := 55) dX0_turns_43 (by decide) rfl (fun hc => ?_) (fun hc => ?_)
  · have h := h.1 hc
    refine fr_iconst (v := (-1)) (by decide) dX0_turns_55 rfl ?_
    exact fr_iret rfl dX0_turns_56 h.1 h.2
  · have h := h.2 hc
    refine fr_iload (q := 0) rfl dX0_turns_46 rfl ?_
    refine fr_aload_n (i := 0) (q := 1) rfl dX0_turns_48 rfl ?_
    refine fr_getI dX0_turns_49 rfl fl_X0_29 k_o ?_
    refine fr_icmp_lt (tgt := 57) dX0_turns_52 (by decide) rfl (fun hc => ?_) (fun hc => ?_)
    · have h := h.1 hc
      refine fr_iconst (v := 0) (by decide) dX0_turns_57 rfl ?_
      refine fr_istore (lv' := [(6, .int 0), (5, .int y10), (0, rf g o), (1, .int x1), (2, .int x2), (3, .int x3), (4, .int x4)]) dX0_turns_58 rfl (by decide) rfl ?_
      exact fr_sub [2, 1, 0] rfl h
    · have h := h.2 hc
      refine fr_iconst (v := (-1)) (by decide) dX0_turns_55 rfl ?_
      exact fr_iret rfl dX0_turns_56 h.1 h.2
theorem wp_X0_turns_60 {g : GE} {Z : Zs} {I : Nat → Nat → Int32} {L : Nat → Nat → Int64} {r : Option Value} {M' : Mem} {o : Nat} {u5 : Int32} {u6 : Int32} {o_left : Nat} {o_queue : Nat} (k_o : KM Z o 0) (r_o_left : Z.2.1 o 4 = some o_left) (k_o_left : KM Z o_left 13) (r_o_queue : Z.2.1 o 5 = some o_queue) (k_o_queue : KM Z o_queue 13) (h : (((I o 6) ≤ u6 → (vp_in u5 (Z.2.2.1 o_left) ∧ ((0 ≤ (I o_left u5.toNatClampNeg) → (vp_in u5 (Z.2.2.1 o_left) ∧ (r = some (.int (I o_left u5.toNatClampNeg)) ∧ M' = (Z, I, L)))) ∧ (¬ 0 ≤ (I o_left u5.toNatClampNeg) → (r = some (.int ((-1))) ∧ M' = (Z, I, L)))))) ∧ (¬ (I o 6) ≤ u6 → (((nI (Z.2.2.1 o_queue)) ≤ u6 → (vp_in u5 (Z.2.2.1 o_left) ∧ ((0 ≤ (I o_left u5.toNatClampNeg) → (vp_in u5 (Z.2.2.1 o_left) ∧ (r = some (.int (I o_left u5.toNatClampNeg)) ∧ M' = (Z, I, L)))) ∧ (¬ 0 ≤ (I o_left u5.toNatClampNeg) → (r = some (.int ((-1))) ∧ M' = (Z, I, L)))))) ∧ (¬ (nI (Z.2.2.1 o_queue)) ≤ u6 → (vp_in u5 (Z.2.2.1 o_left) ∧ ((0 ≤ (I o_left u5.toNatClampNeg) → (vp_in u5 (Z.2.2.1 o_left) ∧ ((0 ≤ (I o_left u5.toNatClampNeg) → (vp_in u5 (Z.2.2.1 o_left) ∧ (r = some (.int (I o_left u5.toNatClampNeg)) ∧ M' = (Z, I, L)))) ∧ (¬ 0 ≤ (I o_left u5.toNatClampNeg) → (r = some (.int ((-1))) ∧ M' = (Z, I, L)))))) ∧ (¬ 0 ≤ (I o_left u5.toNatClampNeg) → (vp_in u6 (Z.2.2.1 o_queue) ∧ (((I o 3) ≤ (I o_queue u6.toNatClampNeg) → (vp_in u6 (Z.2.2.1 o_queue) ∧ (∃ (I10 : Nat → Nat → Int32) (L11 : Nat → Nat → Int64), Cl g 2 mu_X0_settleCatchers [rf g o, .int (I o_queue u6.toNatClampNeg)] (Z, I, L) none (Z, I10, L11) ∧ (∀ y13 : Int32, y13 = (u6 + 1) → Lp_X0_turns_60 g 7 o u5 y13 (Z, I10, L11) r M')))) ∧ (¬ (I o 3) ≤ (I o_queue u6.toNatClampNeg) → (vp_in u6 (Z.2.2.1 o_queue) ∧ (∃ (I15 : Nat → Nat → Int32) (L16 : Nat → Nat → Int64), Cl g 2 mu_X0_settleThiefs [rf g o, .int (I o_queue u6.toNatClampNeg)] (Z, I, L) none (Z, I15, L16) ∧ (∀ y18 : Int32, y18 = (u6 + 1) → Lp_X0_turns_60 g 7 o u5 y18 (Z, I15, L16) r M')))))))))))))) : Lp_X0_turns_60 g 7 o u5 u6 (Z, I, L) r M' := by
  refine fr_iload (q := 2) rfl dX0_turns_60 rfl ?_
  refine fr_aload_n (i := 0) (q := 0) rfl dX0_turns_62 rfl ?_
  refine fr_getI dX0_turns_63 rfl fl_X0_58 k_o ?_
  refine fr_icmp_ge (tgt := 134) dX0_turns_66 (by decide) rfl (fun hc => ?_) (fun hc => ?_)
  · have h := h.1 hc
    refine fr_aload_n (i := 0) (q := 0) rfl dX0_turns_134 rfl ?_
    refine fr_getR dX0_turns_135 rfl fl_X0_32 k_o r_o_left ?_
    refine fr_iload (q := 1) rfl dX0_turns_138 rfl ?_
    obtain ⟨hz1, h⟩ := h
    refine fr_iald dX0_turns_140 rfl k_o_left hz1 ?_
    refine fr_if_ge (tgt := 148) dX0_turns_141 (by decide) rfl (fun hc => ?_) (fun hc => ?_)
    · have h := h.1 hc
      refine fr_aload_n (i := 0) (q := 0) rfl dX0_turns_148 rfl ?_
      refine fr_getR dX0_turns_149 rfl fl_X0_32 k_o r_o_left ?_
      refine fr_iload (q := 1) rfl dX0_turns_152 rfl ?_
      obtain ⟨hz2, h⟩ := h
      refine fr_iald dX0_turns_154 rfl k_o_left hz2 ?_
      exact fr_iret rfl dX0_turns_155 h.1 h.2
    · have h := h.2 hc
      refine fr_iconst (v := (-1)) (by decide) dX0_turns_144 rfl ?_
      refine fr_goto (n := 155) dX0_turns_145 (by decide) ?_
      exact fr_iret rfl dX0_turns_155 h.1 h.2
  · have h := h.2 hc
    refine fr_iload (q := 2) rfl dX0_turns_69 rfl ?_
    refine fr_aload_n (i := 0) (q := 0) rfl dX0_turns_71 rfl ?_
    refine fr_getR dX0_turns_72 rfl fl_X0_36 k_o r_o_queue ?_
    refine fr_alen dX0_turns_75 rfl k_o_queue (Or.inl rfl) ?_
    refine fr_icmp_ge (tgt := 134) dX0_turns_76 (by decide) rfl (fun hc => ?_) (fun hc => ?_)
    · have h := h.1 hc
      refine fr_aload_n (i := 0) (q := 0) rfl dX0_turns_134 rfl ?_
      refine fr_getR dX0_turns_135 rfl fl_X0_32 k_o r_o_left ?_
      refine fr_iload (q := 1) rfl dX0_turns_138 rfl ?_
      obtain ⟨hz3, h⟩ := h
      refine fr_iald dX0_turns_140 rfl k_o_left hz3 ?_
      refine fr_if_ge (tgt := 148) dX0_turns_141 (by decide) rfl (fun hc => ?_) (fun hc => ?_)
      · have h := h.1 hc
        refine fr_aload_n (i := 0) (q := 0) rfl dX0_turns_148 rfl ?_
        refine fr_getR dX0_turns_149 rfl fl_X0_32 k_o r_o_left ?_
        refine fr_iload (q := 1) rfl dX0_turns_152 rfl ?_
        obtain ⟨hz4, h⟩ := h
        refine fr_iald dX0_turns_154 rfl k_o_left hz4 ?_
        exact fr_iret rfl dX0_turns_155 h.1 h.2
      · have h := h.2 hc
        refine fr_iconst (v := (-1)) (by decide) dX0_turns_144 rfl ?_
        refine fr_goto (n := 155) dX0_turns_145 (by decide) ?_
        exact fr_iret rfl dX0_turns_155 h.1 h.2
    · have h := h.2 hc
      refine fr_aload_n (i := 0) (q := 0) rfl dX0_turns_79 rfl ?_
      refine fr_getR dX0_turns_80 rfl fl_X0_32 k_o r_o_left ?_
      refine fr_iload (q := 1) rfl dX0_turns_83 rfl ?_
      obtain ⟨hz5, h⟩ := h
      refine fr_iald dX0_turns_85 rfl k_o_left hz5 ?_
      refine fr_if_ge (tgt := 134) dX0_turns_86 (by decide) rfl (fun hc => ?_) (fun hc => ?_)
      · have h := h.1 hc
        refine fr_aload_n (i := 0) (q := 0) rfl dX0_turns_134 rfl ?_
        refine fr_getR dX0_turns_135 rfl fl_X0_32 k_o r_o_left ?_
        refine fr_iload (q := 1) rfl dX0_turns_138 rfl ?_
        obtain ⟨hz6, h⟩ := h
        refine fr_iald dX0_turns_140 rfl k_o_left hz6 ?_
        refine fr_if_ge (tgt := 148) dX0_turns_141 (by decide) rfl (fun hc => ?_) (fun hc => ?_)
        · have h := h.1 hc
          refine fr_aload_n (i := 0) (q := 0) rfl dX0_turns_148 rfl ?_
          refine fr_getR dX0_turns_149 rfl fl_X0_32 k_o r_o_left ?_
          refine fr_iload (q := 1) rfl dX0_turns_152 rfl ?_
          obtain ⟨hz7, h⟩ := h
          refine fr_iald dX0_turns_154 rfl k_o_left hz7 ?_
          exact fr_iret rfl dX0_turns_155 h.1 h.2
        · have h := h.2 hc
          refine fr_iconst (v := (-1)) (by decide) dX0_turns_144 rfl ?_
          refine fr_goto (n := 155) dX0_turns_145 (by decide) ?_
          exact fr_iret rfl dX0_turns_155 h.1 h.2
      · have h := h.2 hc
        refine fr_aload_n (i := 0) (q := 0) rfl dX0_turns_89 rfl ?_
        refine fr_getR dX0_turns_90 rfl fl_X0_36 k_o r_o_queue ?_
        refine fr_iload (q := 2) rfl dX0_turns_93 rfl ?_
        obtain ⟨hz8, h⟩ := h
        refine fr_iald dX0_turns_95 rfl k_o_queue hz8 ?_
        refine fr_aload_n (i := 0) (q := 0) rfl dX0_turns_96 rfl ?_
        refine fr_getI dX0_turns_97 rfl fl_X0_29 k_o ?_
        refine fr_icmp_ge (tgt := 117) dX0_turns_100 (by decide) rfl (fun hc => ?_) (fun hc => ?_)
        · have h := h.1 hc
          refine fr_aload_n (i := 0) (q := 0) rfl dX0_turns_117 rfl ?_
          refine fr_aload_n (i := 0) (q := 0) rfl dX0_turns_118 rfl ?_
          refine fr_getR dX0_turns_119 rfl fl_X0_36 k_o r_o_queue ?_
          refine fr_iload (q := 2) rfl dX0_turns_122 rfl ?_
          obtain ⟨hz9, h⟩ := h
          refine fr_iald dX0_turns_124 rfl k_o_queue hz9 ?_
          obtain ⟨I10, L11, hc12, h⟩ := h
          refine fr_callV2 (ν := mu_X0_settleCatchers) (st2 := []) (As := [.int (I o_queue u6.toNatClampNeg)]) (st := []) (v := none) (M1 := (Z, I10, L11)) dX0_turns_125 rfl ml_X0_65 mo_X0_settleCatchers mi_X0_settleCatchers (ci := 0) rfl rfl k_o (Nat.le_of_ble_eq_true rfl) rfl rfl (Nat.le_of_ble_eq_true rfl) hc12 rfl ?_
          obtain ⟨y13, hy13⟩ : ∃ y : Int32, y = u6 + 1 := ⟨_, rfl⟩
          have h := h y13 hy13
          refine fr_iinc (q := 2) (v := y13) (lv' := [(6, .int y13), (0, rf g o), (5, .int u5)]) rfl (by rw [hy13]; rfl) dX0_turns_128 rfl (by decide) rfl ?_
          refine fr_goto (n := 60) dX0_turns_131 (by decide) ?_
          exact fr_sub [1, 2, 0] rfl h
        · have h := h.2 hc
          refine fr_aload_n (i := 0) (q := 0) rfl dX0_turns_103 rfl ?_
          refine fr_aload_n (i := 0) (q := 0) rfl dX0_turns_104 rfl ?_
          refine fr_getR dX0_turns_105 rfl fl_X0_36 k_o r_o_queue ?_
          refine fr_iload (q := 2) rfl dX0_turns_108 rfl ?_
          obtain ⟨hz14, h⟩ := h
          refine fr_iald dX0_turns_110 rfl k_o_queue hz14 ?_
          obtain ⟨I15, L16, hc17, h⟩ := h
          refine fr_callV2 (ν := mu_X0_settleThiefs) (st2 := []) (As := [.int (I o_queue u6.toNatClampNeg)]) (st := []) (v := none) (M1 := (Z, I15, L16)) dX0_turns_111 rfl ml_X0_61 mo_X0_settleThiefs mi_X0_settleThiefs (ci := 0) rfl rfl k_o (Nat.le_of_ble_eq_true rfl) rfl rfl (Nat.le_of_ble_eq_true rfl) hc17 rfl ?_
          refine fr_goto (n := 128) dX0_turns_114 (by decide) ?_
          obtain ⟨y18, hy18⟩ : ∃ y : Int32, y = u6 + 1 := ⟨_, rfl⟩
          have h := h y18 hy18
          refine fr_iinc (q := 2) (v := y18) (lv' := [(6, .int y18), (0, rf g o), (5, .int u5)]) rfl (by rw [hy18]; rfl) dX0_turns_128 rfl (by decide) rfl ?_
          refine fr_goto (n := 60) dX0_turns_131 (by decide) ?_
          exact fr_sub [1, 2, 0] rfl h
abbrev Lp_X0_firstTap_3 (g : GE) (d : Nat) (o : Nat) (u1 : Int32) (u2 : Int32) (u3 : Int32) (u4 : Int32) (u5 : Int32) (M : Mem) (r : Option Value) (M' : Mem) : Prop := Fr g d mu_X0_firstTap 3 [(0, rf g o), (1, .int u1), (2, .int u2), (3, .int u3), (4, .int u4), (5, .int u5)] [] M r M'
theorem cp_X0_firstTap {g : GE} {Z : Zs} {I : Nat → Nat → Int32} {L : Nat → Nat → Int64} {r : Option Value} {M' : Mem} {o : Nat} {x1 : Int32} {x2 : Int32} {x3 : Int32} {x4 : Int32} (k_o : KM Z o 0) (h : Lp_X0_firstTap_3 g 6 o x1 x2 x3 x4 0 (Z, I, L) r M') : Cl g 6 mu_X0_firstTap [rf g o, .int x1, .int x2, .int x3, .int x4] (Z, I, L) r M' := by
  refine cl_of (lv := [(0, rf g o), (1, .int x1), (2, .int x2), (3, .int x3), (4, .int x4)]) (by decide) (Nat.le_of_ble_eq_true rfl) rfl ?_
  refine fr_iconst (v := 0) (by decide) dX0_firstTap_0 rfl ?_
  refine fr_istore (lv' := [(5, .int 0), (0, rf g o), (1, .int x1), (2, .int x2), (3, .int x3), (4, .int x4)]) dX0_firstTap_1 rfl (by decide) rfl ?_
  exact fr_sub [1, 2, 3, 4, 5, 0] rfl h
theorem wp_X0_firstTap_3 {g : GE} {Z : Zs} {I : Nat → Nat → Int32} {L : Nat → Nat → Int64} {r : Option Value} {M' : Mem} {o : Nat} {u1 : Int32} {u2 : Int32} {u3 : Int32} {u4 : Int32} {u5 : Int32} {o_legs : Nat} {o_left : Nat} (k_o : KM Z o 0) (r_o_legs : Z.2.1 o 1 = some o_legs) (k_o_legs : KM Z o_legs 3) (r_o_left : Z.2.1 o 4 = some o_left) (k_o_left : KM Z o_left 13) (h : ((4 ≤ u5 → (r = some (.int ((-1))) ∧ M' = (Z, I, L))) ∧ (¬ 4 ≤ u5 → (∃ (v1 : Int32) (I2 : Nat → Nat → Int32) (L3 : Nat → Nat → Int64), Cl g 5 mu_X3_step [rf g o_legs, .int u1, .int u2, .int u5] (Z, I, L) (some (.int v1)) (Z, I2, L3) ∧ (∃ (v5 : Int32), Cl g 1 mu_X11_poseOf [.int v1] (Z, I2, L3) (some (.int v5)) (Z, I2, L3) ∧ (∀ y7 : Int32, y7 = (((I o 3) + (v5 * (I2 o 2))) + u3) → (((nI (Z.2.2.1 o_left)) ≤ y7 → (∀ y8 : Int32, y8 = (u5 + 1) → Lp_X0_firstTap_3 g 6 o u1 u2 u3 u4 y8 (Z, I2, L3) r M')) ∧ (¬ (nI (Z.2.2.1 o_left)) ≤ y7 → (vp_in y7 (Z.2.2.1 o_left) ∧ ((¬ (I2 o_left y7.toNatClampNeg) = (u4 - 1) → (∀ y10 : Int32, y10 = (u5 + 1) → Lp_X0_firstTap_3 g 6 o u1 u2 u3 u4 y10 (Z, I2, L3) r M')) ∧ ((I2 o_left y7.toNatClampNeg) = (u4 - 1) → (r = some (.int u5) ∧ M' = (Z, I2, L3))))))))))))) : Lp_X0_firstTap_3 g 6 o u1 u2 u3 u4 u5 (Z, I, L) r M' := by
  refine fr_iload (q := 5) rfl dX0_firstTap_3 rfl ?_
  refine fr_iconst (v := 4) (by decide) dX0_firstTap_5 rfl ?_
  refine fr_icmp_ge (tgt := 70) dX0_firstTap_6 (by decide) rfl (fun hc => ?_) (fun hc => ?_)
  · have h := h.1 hc
    refine fr_iconst (v := (-1)) (by decide) dX0_firstTap_70 rfl ?_
    exact fr_iret rfl dX0_firstTap_71 h.1 h.2
  · have h := h.2 hc
    refine fr_aload_n (i := 0) (q := 0) rfl dX0_firstTap_9 rfl ?_
    refine fr_getI dX0_firstTap_10 rfl fl_X0_29 k_o ?_
    refine fr_aload_n (i := 0) (q := 0) rfl dX0_firstTap_13 rfl ?_
    refine fr_getR dX0_firstTap_14 rfl fl_X0_15 k_o r_o_legs ?_
    refine fr_iload_n (i := 1) (q := 1) rfl dX0_firstTap_17 rfl ?_
    refine fr_iload_n (i := 2) (q := 2) rfl dX0_firstTap_18 rfl ?_
    refine fr_iload (q := 5) rfl dX0_firstTap_19 rfl ?_
    obtain ⟨v1, I2, L3, hc4, h⟩ := h
    refine fr_callV2 (ν := mu_X3_step) (st2 := [.int v1, .int (I o 3)]) (As := [.int u1, .int u2, .int u5]) (st := [.int (I o 3)]) (v := (some (.int v1))) (M1 := (Z, I2, L3)) dX0_firstTap_21 rfl ml_X0_68 mo_X3_step mi_X3_step (ci := 3) rfl rfl k_o_legs (Nat.le_of_ble_eq_true rfl) rfl rfl (Nat.le_of_ble_eq_true rfl) hc4 rfl ?_
    obtain ⟨v5, hc6, h⟩ := h
    refine fr_callSN2 (ν := mu_X11_poseOf) (st2 := [.int v5, .int (I o 3)]) (As := [.int v1]) (st := [.int (I o 3)]) (v := (some (.int v5))) (M1 := (Z, I2, L3)) dX0_firstTap_24 rfl (by decide) mo_X11_poseOf ms_X11_poseOf (Nat.le_of_ble_eq_true rfl) rfl rfl (Nat.le_of_ble_eq_true rfl) hc6 rfl ?_
    refine fr_aload_n (i := 0) (q := 0) rfl dX0_firstTap_27 rfl ?_
    refine fr_getI dX0_firstTap_28 rfl fl_X0_25 k_o ?_
    refine fr_imul dX0_firstTap_31 rfl ?_
    refine fr_iadd dX0_firstTap_32 rfl ?_
    refine fr_iload_n (i := 3) (q := 3) rfl dX0_firstTap_33 rfl ?_
    refine fr_iadd dX0_firstTap_34 rfl ?_
    refine fr_topi (fun y7 hy7 => ?_)
    have h := h y7 hy7
    refine fr_istore (lv' := [(6, .int y7), (0, rf g o), (1, .int u1), (2, .int u2), (3, .int u3), (4, .int u4), (5, .int u5)]) dX0_firstTap_35 rfl (by decide) rfl ?_
    refine fr_iload (q := 0) rfl dX0_firstTap_37 rfl ?_
    refine fr_aload_n (i := 0) (q := 1) rfl dX0_firstTap_39 rfl ?_
    refine fr_getR dX0_firstTap_40 rfl fl_X0_32 k_o r_o_left ?_
    refine fr_alen dX0_firstTap_43 rfl k_o_left (Or.inl rfl) ?_
    refine fr_icmp_ge (tgt := 64) dX0_firstTap_44 (by decide) rfl (fun hc => ?_) (fun hc => ?_)
    · have h := h.1 hc
      obtain ⟨y8, hy8⟩ : ∃ y : Int32, y = u5 + 1 := ⟨_, rfl⟩
      have h := h y8 hy8
      refine fr_iinc (q := 6) (v := y8) (lv' := [(5, .int y8), (6, .int y7), (0, rf g o), (1, .int u1), (2, .int u2), (3, .int u3), (4, .int u4)]) rfl (by rw [hy8]; rfl) dX0_firstTap_64 rfl (by decide) rfl ?_
      refine fr_goto (n := 3) dX0_firstTap_67 (by decide) ?_
      exact fr_sub [2, 3, 4, 5, 6, 0] rfl h
    · have h := h.2 hc
      refine fr_aload_n (i := 0) (q := 1) rfl dX0_firstTap_47 rfl ?_
      refine fr_getR dX0_firstTap_48 rfl fl_X0_32 k_o r_o_left ?_
      refine fr_iload (q := 0) rfl dX0_firstTap_51 rfl ?_
      obtain ⟨hz9, h⟩ := h
      refine fr_iald dX0_firstTap_53 rfl k_o_left hz9 ?_
      refine fr_iload (q := 5) rfl dX0_firstTap_54 rfl ?_
      refine fr_iconst (v := 1) (by decide) dX0_firstTap_56 rfl ?_
      refine fr_isub dX0_firstTap_57 rfl ?_
      refine fr_icmp_ne (tgt := 64) dX0_firstTap_58 (by decide) rfl (fun hc => ?_) (fun hc => ?_)
      · have h := h.1 hc
        obtain ⟨y10, hy10⟩ : ∃ y : Int32, y = u5 + 1 := ⟨_, rfl⟩
        have h := h y10 hy10
        refine fr_iinc (q := 6) (v := y10) (lv' := [(5, .int y10), (6, .int y7), (0, rf g o), (1, .int u1), (2, .int u2), (3, .int u3), (4, .int u4)]) rfl (by rw [hy10]; rfl) dX0_firstTap_64 rfl (by decide) rfl ?_
        refine fr_goto (n := 3) dX0_firstTap_67 (by decide) ?_
        exact fr_sub [2, 3, 4, 5, 6, 0] rfl h
      · have h := h.2 hc
        refine fr_iload (q := 6) rfl dX0_firstTap_61 rfl ?_
        exact fr_iret rfl dX0_firstTap_63 h.1 h.2
abbrev Lp_X0_link_8 (g : GE) (d : Nat) (o : Nat) (u1 : Int32) (a2 : Nat) (a3 : Nat) (u4 : Int32) (M : Mem) (r : Option Value) (M' : Mem) : Prop := Fr g d mu_X0_link 8 [(0, rf g o), (1, .int u1), (2, rf g a2), (3, rf g a3), (4, .int u4)] [] M r M'
theorem cp_X0_link {g : GE} {Z : Zs} {I : Nat → Nat → Int32} {L : Nat → Nat → Int64} {r : Option Value} {M' : Mem} {o : Nat} {x1 : Int32} {a2 : Nat} {a3 : Nat} (k_o : KM Z o 0) (k_a2 : KM Z a2 13) (k_a3 : KM Z a3 13) (h : (∃ (I1 : Nat → Nat → Int32) (L2 : Nat → Nat → Int64), Cl g 1 mu_J7_fill_53178 [rf g a2, .int 0] (Z, I, L) none (Z, I1, L2) ∧ Lp_X0_link_8 g 6 o x1 a2 a3 0 (Z, I1, L2) r M')) : Cl g 6 mu_X0_link [rf g o, .int x1, rf g a2, rf g a3] (Z, I, L) r M' := by
  refine cl_of (lv := [(0, rf g o), (1, .int x1), (2, rf g a2), (3, rf g a3)]) (by decide) (Nat.le_of_ble_eq_true rfl) rfl ?_
  refine fr_aload_n (i := 2) (q := 2) rfl dX0_link_0 rfl ?_
  refine fr_iconst (v := 0) (by decide) dX0_link_1 rfl ?_
  obtain ⟨I1, L2, hc3, h⟩ := h
  refine fr_callS2 (ν := mu_J7_fill_53178) (st2 := []) (As := [rf g a2, .int 0]) (st := []) (v := none) (M1 := (Z, I1, L2)) dX0_link_2 rfl ml_X0_78 mo_J7_fill_53178 ms_J7_fill_53178 (Nat.le_of_ble_eq_true rfl) rfl rfl (Nat.le_of_ble_eq_true rfl) hc3 rfl ?_
  refine fr_iconst (v := 0) (by decide) dX0_link_5 rfl ?_
  refine fr_istore (lv' := [(4, .int 0), (0, rf g o), (1, .int x1), (2, rf g a2), (3, rf g a3)]) dX0_link_6 rfl (by decide) rfl ?_
  exact fr_sub [1, 2, 3, 4, 0] rfl h
abbrev Lp_X0_link_67 (g : GE) (d : Nat) (o : Nat) (u1 : Int32) (a2 : Nat) (a3 : Nat) (u4 : Int32) (M : Mem) (r : Option Value) (M' : Mem) : Prop := Fr g d mu_X0_link 67 [(0, rf g o), (1, .int u1), (2, rf g a2), (3, rf g a3), (4, .int u4)] [] M r M'
theorem wp_X0_link_8 {g : GE} {Z : Zs} {I : Nat → Nat → Int32} {L : Nat → Nat → Int64} {r : Option Value} {M' : Mem} {o : Nat} {u1 : Int32} {a2 : Nat} {a3 : Nat} {u4 : Int32} {o_state : Nat} {o_legs : Nat} (k_o : KM Z o 0) (k_a2 : KM Z a2 13) (k_a3 : KM Z a3 13) (r_o_state : Z.2.1 o 0 = some o_state) (k_o_state : KM Z o_state 8) (r_o_legs : Z.2.1 o 1 = some o_legs) (k_o_legs : KM Z o_legs 3) (h : (((4 * (I o 2)) ≤ u4 → Lp_X0_link_67 g 6 o u1 a2 a3 1 (Z, I, L) r M') ∧ (¬ (4 * (I o 2)) ≤ u4 → (∃ (v1 : Int32), Cl g 2 mu_X8_isPose [rf g o_state, .int (u4 / 4)] (Z, I, L) (some (.int v1)) (Z, I, L) ∧ ((v1 = 0 → (∀ y3 : Int32, y3 = (u4 + 1) → Lp_X0_link_8 g 6 o u1 a2 a3 y3 (Z, I, L) r M')) ∧ (¬ v1 = 0 → (∃ (v4 : Int32) (I5 : Nat → Nat → Int32) (L6 : Nat → Nat → Int64), Cl g 5 mu_X3_step [rf g o_legs, .int u1, .int (u4 / 4), .int (u4 - u4 / 4 * 4)] (Z, I, L) (some (.int v4)) (Z, I5, L6) ∧ (∃ (v8 : Int32), Cl g 1 mu_X11_poseOf [.int v4] (Z, I5, L6) (some (.int v8)) (Z, I5, L6) ∧ (vp_in v8 (Z.2.2.1 a2) ∧ (vp_in v8 (Z.2.2.1 a2) ∧ (∀ I12 : Nat → Nat → Int32, I12 = rw1 I5 a2 (upd (I5 a2) v8.toNatClampNeg ((I5 a2 v8.toNatClampNeg) + 1)) → (∀ y13 : Int32, y13 = (u4 + 1) → Lp_X0_link_8 g 6 o u1 a2 a3 y13 (Z, I12, L6) r M')))))))))))) : Lp_X0_link_8 g 6 o u1 a2 a3 u4 (Z, I, L) r M' := by
  refine fr_iload (q := 4) rfl dX0_link_8 rfl ?_
  refine fr_iconst (v := 4) (by decide) dX0_link_10 rfl ?_
  refine fr_aload_n (i := 0) (q := 0) rfl dX0_link_11 rfl ?_
  refine fr_getI dX0_link_12 rfl fl_X0_25 k_o ?_
  refine fr_imul dX0_link_15 rfl ?_
  refine fr_icmp_ge (tgt := 64) dX0_link_16 (by decide) rfl (fun hc => ?_) (fun hc => ?_)
  · have h := h.1 hc
    refine fr_iconst (v := 1) (by decide) dX0_link_64 rfl ?_
    refine fr_istore (lv' := [(4, .int 1), (0, rf g o), (1, .int u1), (2, rf g a2), (3, rf g a3)]) dX0_link_65 rfl (by decide) rfl ?_
    exact fr_sub [1, 2, 3, 4, 0] rfl h
  · have h := h.2 hc
    refine fr_aload_n (i := 0) (q := 0) rfl dX0_link_19 rfl ?_
    refine fr_getR dX0_link_20 rfl fl_X0_9 k_o r_o_state ?_
    refine fr_iload (q := 4) rfl dX0_link_23 rfl ?_
    refine fr_iconst (v := 4) (by decide) dX0_link_25 rfl ?_
    refine fr_idiv (by decide) dX0_link_26 rfl ?_
    obtain ⟨v1, hc2, h⟩ := h
    refine fr_callV2 (ν := mu_X8_isPose) (st2 := [.int v1]) (As := [.int (u4 / 4)]) (st := []) (v := (some (.int v1))) (M1 := (Z, I, L)) dX0_link_27 rfl ml_X0_84 mo_X8_isPose mi_X8_isPose (ci := 8) rfl rfl k_o_state (Nat.le_of_ble_eq_true rfl) rfl rfl (Nat.le_of_ble_eq_true rfl) hc2 rfl ?_
    refine fr_if_eq (tgt := 58) dX0_link_30 (by decide) rfl (fun hc => ?_) (fun hc => ?_)
    · have h := h.1 hc
      obtain ⟨y3, hy3⟩ : ∃ y : Int32, y = u4 + 1 := ⟨_, rfl⟩
      have h := h y3 hy3
      refine fr_iinc (q := 4) (v := y3) (lv' := [(4, .int y3), (0, rf g o), (1, .int u1), (2, rf g a2), (3, rf g a3)]) rfl (by rw [hy3]; rfl) dX0_link_58 rfl (by decide) rfl ?_
      refine fr_goto (n := 8) dX0_link_61 (by decide) ?_
      exact fr_sub [1, 2, 3, 4, 0] rfl h
    · have h := h.2 hc
      refine fr_aload_n (i := 2) (q := 2) rfl dX0_link_33 rfl ?_
      refine fr_aload_n (i := 0) (q := 0) rfl dX0_link_34 rfl ?_
      refine fr_getR dX0_link_35 rfl fl_X0_15 k_o r_o_legs ?_
      refine fr_iload_n (i := 1) (q := 1) rfl dX0_link_38 rfl ?_
      refine fr_iload (q := 4) rfl dX0_link_39 rfl ?_
      refine fr_iconst (v := 4) (by decide) dX0_link_41 rfl ?_
      refine fr_idiv (by decide) dX0_link_42 rfl ?_
      refine fr_iload (q := 4) rfl dX0_link_43 rfl ?_
      refine fr_iconst (v := 4) (by decide) dX0_link_45 rfl ?_
      refine fr_irem (by decide) dX0_link_46 rfl ?_
      obtain ⟨v4, I5, L6, hc7, h⟩ := h
      refine fr_callV2 (ν := mu_X3_step) (st2 := [.int v4, rf g a2]) (As := [.int u1, .int (u4 / 4), .int (u4 - u4 / 4 * 4)]) (st := [rf g a2]) (v := (some (.int v4))) (M1 := (Z, I5, L6)) dX0_link_47 rfl ml_X0_68 mo_X3_step mi_X3_step (ci := 3) rfl rfl k_o_legs (Nat.le_of_ble_eq_true rfl) rfl rfl (Nat.le_of_ble_eq_true rfl) hc7 rfl ?_
      obtain ⟨v8, hc9, h⟩ := h
      refine fr_callSN2 (ν := mu_X11_poseOf) (st2 := [.int v8, rf g a2]) (As := [.int v4]) (st := [rf g a2]) (v := (some (.int v8))) (M1 := (Z, I5, L6)) dX0_link_50 rfl (by decide) mo_X11_poseOf ms_X11_poseOf (Nat.le_of_ble_eq_true rfl) rfl rfl (Nat.le_of_ble_eq_true rfl) hc9 rfl ?_
      refine fr_dup2 rfl rfl dX0_link_53 rfl ?_
      obtain ⟨hz10, h⟩ := h
      refine fr_iald dX0_link_54 rfl k_a2 hz10 ?_
      refine fr_iconst (v := 1) (by decide) dX0_link_55 rfl ?_
      refine fr_iadd dX0_link_56 rfl ?_
      obtain ⟨hz11, h⟩ := h
      refine fr_iast dX0_link_57 rfl k_a2 hz11 ?_
      refine fr_memI (fun I12 hI12 => ?_)
      have h := h I12 hI12
      obtain ⟨y13, hy13⟩ : ∃ y : Int32, y = u4 + 1 := ⟨_, rfl⟩
      have h := h y13 hy13
      refine fr_iinc (q := 4) (v := y13) (lv' := [(4, .int y13), (0, rf g o), (1, .int u1), (2, rf g a2), (3, rf g a3)]) rfl (by rw [hy13]; rfl) dX0_link_58 rfl (by decide) rfl ?_
      refine fr_goto (n := 8) dX0_link_61 (by decide) ?_
      exact fr_sub [1, 2, 3, 4, 0] rfl h
abbrev Lp_X0_link_98 (g : GE) (d : Nat) (o : Nat) (u1 : Int32) (a2 : Nat) (a3 : Nat) (u4 : Int32) (M : Mem) (r : Option Value) (M' : Mem) : Prop := Fr g d mu_X0_link 98 [(0, rf g o), (1, .int u1), (2, rf g a2), (3, rf g a3), (4, .int u4)] [] M r M'
theorem wp_X0_link_67 {g : GE} {Z : Zs} {I : Nat → Nat → Int32} {L : Nat → Nat → Int64} {r : Option Value} {M' : Mem} {o : Nat} {u1 : Int32} {a2 : Nat} {a3 : Nat} {u4 : Int32} (k_o : KM Z o 0) (k_a2 : KM Z a2 13) (k_a3 : KM Z a3 13) (h : (((I o 2) < u4 → Lp_X0_link_98 g 6 o u1 a2 a3 0 (Z, I, L) r M') ∧ (¬ (I o 2) < u4 → (vp_in u4 (Z.2.2.1 a2) ∧ (vp_in (u4 - 1) (Z.2.2.1 a2) ∧ (vp_in u4 (Z.2.2.1 a2) ∧ (∀ I4 : Nat → Nat → Int32, I4 = rw1 I a2 (upd (I a2) u4.toNatClampNeg ((I a2 u4.toNatClampNeg) + (I a2 (u4 - 1).toNatClampNeg))) → (∀ y5 : Int32, y5 = (u4 + 1) → Lp_X0_link_67 g 6 o u1 a2 a3 y5 (Z, I4, L) r M')))))))) : Lp_X0_link_67 g 6 o u1 a2 a3 u4 (Z, I, L) r M' := by
  refine fr_iload (q := 4) rfl dX0_link_67 rfl ?_
  refine fr_aload_n (i := 0) (q := 0) rfl dX0_link_69 rfl ?_
  refine fr_getI dX0_link_70 rfl fl_X0_25 k_o ?_
  refine fr_icmp_gt (tgt := 95) dX0_link_73 (by decide) rfl (fun hc => ?_) (fun hc => ?_)
  · have h := h.1 hc
    refine fr_iconst (v := 0) (by decide) dX0_link_95 rfl ?_
    refine fr_istore (lv' := [(4, .int 0), (0, rf g o), (1, .int u1), (2, rf g a2), (3, rf g a3)]) dX0_link_96 rfl (by decide) rfl ?_
    exact fr_sub [1, 2, 3, 4, 0] rfl h
  · have h := h.2 hc
    refine fr_aload_n (i := 2) (q := 2) rfl dX0_link_76 rfl ?_
    refine fr_iload (q := 4) rfl dX0_link_77 rfl ?_
    refine fr_dup2 rfl rfl dX0_link_79 rfl ?_
    obtain ⟨hz1, h⟩ := h
    refine fr_iald dX0_link_80 rfl k_a2 hz1 ?_
    refine fr_aload_n (i := 2) (q := 2) rfl dX0_link_81 rfl ?_
    refine fr_iload (q := 4) rfl dX0_link_82 rfl ?_
    refine fr_iconst (v := 1) (by decide) dX0_link_84 rfl ?_
    refine fr_isub dX0_link_85 rfl ?_
    obtain ⟨hz2, h⟩ := h
    refine fr_iald dX0_link_86 rfl k_a2 hz2 ?_
    refine fr_iadd dX0_link_87 rfl ?_
    obtain ⟨hz3, h⟩ := h
    refine fr_iast dX0_link_88 rfl k_a2 hz3 ?_
    refine fr_memI (fun I4 hI4 => ?_)
    have h := h I4 hI4
    obtain ⟨y5, hy5⟩ : ∃ y : Int32, y = u4 + 1 := ⟨_, rfl⟩
    have h := h y5 hy5
    refine fr_iinc (q := 4) (v := y5) (lv' := [(4, .int y5), (0, rf g o), (1, .int u1), (2, rf g a2), (3, rf g a3)]) rfl (by rw [hy5]; rfl) dX0_link_89 rfl (by decide) rfl ?_
    refine fr_goto (n := 67) dX0_link_92 (by decide) ?_
    exact fr_sub [1, 2, 3, 4, 0] rfl h
theorem wp_X0_link_98 {g : GE} {Z : Zs} {I : Nat → Nat → Int32} {L : Nat → Nat → Int64} {r : Option Value} {M' : Mem} {o : Nat} {u1 : Int32} {a2 : Nat} {a3 : Nat} {u4 : Int32} {o_state : Nat} {o_legs : Nat} (k_o : KM Z o 0) (k_a2 : KM Z a2 13) (k_a3 : KM Z a3 13) (r_o_state : Z.2.1 o 0 = some o_state) (k_o_state : KM Z o_state 8) (r_o_legs : Z.2.1 o 1 = some o_legs) (k_o_legs : KM Z o_legs 3) (h : (((4 * (I o 2)) ≤ u4 → (r = none ∧ M' = (Z, I, L))) ∧ (¬ (4 * (I o 2)) ≤ u4 → (∃ (v1 : Int32), Cl g 2 mu_X8_isPose [rf g o_state, .int (u4 / 4)] (Z, I, L) (some (.int v1)) (Z, I, L) ∧ ((v1 = 0 → (∀ y3 : Int32, y3 = (u4 + 1) → Lp_X0_link_98 g 6 o u1 a2 a3 y3 (Z, I, L) r M')) ∧ (¬ v1 = 0 → (∃ (v4 : Int32) (I5 : Nat → Nat → Int32) (L6 : Nat → Nat → Int64), Cl g 5 mu_X3_step [rf g o_legs, .int u1, .int (u4 / 4), .int (u4 - u4 / 4 * 4)] (Z, I, L) (some (.int v4)) (Z, I5, L6) ∧ (∃ (v8 : Int32), Cl g 1 mu_X11_poseOf [.int v4] (Z, I5, L6) (some (.int v8)) (Z, I5, L6) ∧ (vp_in v8 (Z.2.2.1 a2) ∧ (vp_in v8 (Z.2.2.1 a2) ∧ (∀ I12 : Nat → Nat → Int32, I12 = rw1 I5 a2 (upd (I5 a2) v8.toNatClampNeg ((I5 a2 v8.toNatClampNeg) - 1)) → (vp_in v8 (Z.2.2.1 a2) ∧ (vp_in (I12 a2 v8.toNatClampNeg) (Z.2.2.1 a3) ∧ (∀ I15 : Nat → Nat → Int32, I15 = rw1 I12 a3 (upd (I12 a3) (I12 a2 v8.toNatClampNeg).toNatClampNeg (u4 / 4)) → (∀ y16 : Int32, y16 = (u4 + 1) → Lp_X0_link_98 g 6 o u1 a2 a3 y16 (Z, I15, L6) r M'))))))))))))))) : Lp_X0_link_98 g 6 o u1 a2 a3 u4 (Z, I, L) r M' := by
  refine fr_iload (q := 4) rfl dX0_link_98 rfl ?_
  refine fr_iconst (v := 4) (by decide) dX0_link_100 rfl ?_
  refine fr_aload_n (i := 0) (q := 0) rfl dX0_link_101 rfl ?_
  refine fr_getI dX0_link_102 rfl fl_X0_25 k_o ?_
  refine fr_imul dX0_link_105 rfl ?_
  refine fr_icmp_ge (tgt := 168) dX0_link_106 (by decide) rfl (fun hc => ?_) (fun hc => ?_)
  · have h := h.1 hc
    exact fr_vret rfl dX0_link_168 h.1 h.2
  · have h := h.2 hc
    refine fr_aload_n (i := 0) (q := 0) rfl dX0_link_109 rfl ?_
    refine fr_getR dX0_link_110 rfl fl_X0_9 k_o r_o_state ?_
    refine fr_iload (q := 4) rfl dX0_link_113 rfl ?_
    refine fr_iconst (v := 4) (by decide) dX0_link_115 rfl ?_
    refine fr_idiv (by decide) dX0_link_116 rfl ?_
    obtain ⟨v1, hc2, h⟩ := h
    refine fr_callV2 (ν := mu_X8_isPose) (st2 := [.int v1]) (As := [.int (u4 / 4)]) (st := []) (v := (some (.int v1))) (M1 := (Z, I, L)) dX0_link_117 rfl ml_X0_84 mo_X8_isPose mi_X8_isPose (ci := 8) rfl rfl k_o_state (Nat.le_of_ble_eq_true rfl) rfl rfl (Nat.le_of_ble_eq_true rfl) hc2 rfl ?_
    refine fr_if_eq (tgt := 162) dX0_link_120 (by decide) rfl (fun hc => ?_) (fun hc => ?_)
    · have h := h.1 hc
      obtain ⟨y3, hy3⟩ : ∃ y : Int32, y = u4 + 1 := ⟨_, rfl⟩
      have h := h y3 hy3
      refine fr_iinc (q := 4) (v := y3) (lv' := [(4, .int y3), (0, rf g o), (1, .int u1), (2, rf g a2), (3, rf g a3)]) rfl (by rw [hy3]; rfl) dX0_link_162 rfl (by decide) rfl ?_
      refine fr_goto (n := 98) dX0_link_165 (by decide) ?_
      exact fr_sub [1, 2, 3, 4, 0] rfl h
    · have h := h.2 hc
      refine fr_aload_n (i := 0) (q := 0) rfl dX0_link_123 rfl ?_
      refine fr_getR dX0_link_124 rfl fl_X0_15 k_o r_o_legs ?_
      refine fr_iload_n (i := 1) (q := 1) rfl dX0_link_127 rfl ?_
      refine fr_iload (q := 4) rfl dX0_link_128 rfl ?_
      refine fr_iconst (v := 4) (by decide) dX0_link_130 rfl ?_
      refine fr_idiv (by decide) dX0_link_131 rfl ?_
      refine fr_iload (q := 4) rfl dX0_link_132 rfl ?_
      refine fr_iconst (v := 4) (by decide) dX0_link_134 rfl ?_
      refine fr_irem (by decide) dX0_link_135 rfl ?_
      obtain ⟨v4, I5, L6, hc7, h⟩ := h
      refine fr_callV2 (ν := mu_X3_step) (st2 := [.int v4]) (As := [.int u1, .int (u4 / 4), .int (u4 - u4 / 4 * 4)]) (st := []) (v := (some (.int v4))) (M1 := (Z, I5, L6)) dX0_link_136 rfl ml_X0_68 mo_X3_step mi_X3_step (ci := 3) rfl rfl k_o_legs (Nat.le_of_ble_eq_true rfl) rfl rfl (Nat.le_of_ble_eq_true rfl) hc7 rfl ?_
      obtain ⟨v8, hc9, h⟩ := h
      refine fr_callSN2 (ν := mu_X11_poseOf) (st2 := [.int v8]) (As := [.int v4]) (st := []) (v := (some (.int v8))) (M1 := (Z, I5, L6)) dX0_link_139 rfl (by decide) mo_X11_poseOf ms_X11_poseOf (Nat.le_of_ble_eq_true rfl) rfl rfl (Nat.le_of_ble_eq_true rfl) hc9 rfl ?_
      refine fr_istore (lv' := [(5, .int v8), (0, rf g o), (1, .int u1), (2, rf g a2), (3, rf g a3), (4, .int u4)]) dX0_link_142 rfl (by decide) rfl ?_
      refine fr_aload_n (i := 2) (q := 3) rfl dX0_link_144 rfl ?_
      refine fr_iload (q := 0) rfl dX0_link_145 rfl ?_
      refine fr_dup2 rfl rfl dX0_link_147 rfl ?_
      obtain ⟨hz10, h⟩ := h
      refine fr_iald dX0_link_148 rfl k_a2 hz10 ?_
      refine fr_iconst (v := 1) (by decide) dX0_link_149 rfl ?_
      refine fr_isub dX0_link_150 rfl ?_
      obtain ⟨hz11, h⟩ := h
      refine fr_iast dX0_link_151 rfl k_a2 hz11 ?_
      refine fr_memI (fun I12 hI12 => ?_)
      have h := h I12 hI12
      refine fr_aload_n (i := 3) (q := 4) rfl dX0_link_152 rfl ?_
      refine fr_aload_n (i := 2) (q := 3) rfl dX0_link_153 rfl ?_
      refine fr_iload (q := 0) rfl dX0_link_154 rfl ?_
      obtain ⟨hz13, h⟩ := h
      refine fr_iald dX0_link_156 rfl k_a2 hz13 ?_
      refine fr_iload (q := 5) rfl dX0_link_157 rfl ?_
      refine fr_iconst (v := 4) (by decide) dX0_link_159 rfl ?_
      refine fr_idiv (by decide) dX0_link_160 rfl ?_
      obtain ⟨hz14, h⟩ := h
      refine fr_iast dX0_link_161 rfl k_a3 hz14 ?_
      refine fr_memI (fun I15 hI15 => ?_)
      have h := h I15 hI15
      obtain ⟨y16, hy16⟩ : ∃ y : Int32, y = u4 + 1 := ⟨_, rfl⟩
      have h := h y16 hy16
      refine fr_iinc (q := 5) (v := y16) (lv' := [(4, .int y16), (5, .int v8), (0, rf g o), (1, .int u1), (2, rf g a2), (3, rf g a3)]) rfl (by rw [hy16]; rfl) dX0_link_162 rfl (by decide) rfl ?_
      refine fr_goto (n := 98) dX0_link_165 (by decide) ?_
      exact fr_sub [2, 3, 4, 5, 0] rfl h
abbrev Lp_X0_begin_16 (g : GE) (d : Nat) (o : Nat) (u1 : Int32) (M : Mem) (r : Option Value) (M' : Mem) : Prop := Fr g d mu_X0_begin 16 [(0, rf g o), (1, .int u1)] [] M r M'
theorem cp_X0_begin {g : GE} {Z : Zs} {I : Nat → Nat → Int32} {L : Nat → Nat → Int64} {r : Option Value} {M' : Mem} {o : Nat} {o_left : Nat} (k_o : KM Z o 0) (r_o_left : Z.2.1 o 4 = some o_left) (k_o_left : KM Z o_left 13) (h : (∃ (I1 : Nat → Nat → Int32) (L2 : Nat → Nat → Int64), Cl g 1 mu_J7_fill_53178 [rf g o_left, .int ((-4))] (Z, I, L) none (Z, I1, L2) ∧ (∀ I4 : Nat → Nat → Int32, I4 = rw1 I1 o (upd (I1 o) 6 0) → Lp_X0_begin_16 g 3 o 0 (Z, I4, L2) r M'))) : Cl g 3 mu_X0_begin [rf g o] (Z, I, L) r M' := by
  refine cl_of (lv := [(0, rf g o)]) (by decide) (Nat.le_of_ble_eq_true rfl) rfl ?_
  refine fr_aload_n (i := 0) (q := 0) rfl dX0_begin_0 rfl ?_
  refine fr_getR dX0_begin_1 rfl fl_X0_32 k_o r_o_left ?_
  refine fr_bipush (v := (-4)) (by decide) dX0_begin_4 rfl ?_
  obtain ⟨I1, L2, hc3, h⟩ := h
  refine fr_callS2 (ν := mu_J7_fill_53178) (st2 := []) (As := [rf g o_left, .int ((-4))]) (st := []) (v := none) (M1 := (Z, I1, L2)) dX0_begin_6 rfl ml_X0_78 mo_J7_fill_53178 ms_J7_fill_53178 (Nat.le_of_ble_eq_true rfl) rfl rfl (Nat.le_of_ble_eq_true rfl) hc3 rfl ?_
  refine fr_aload_n (i := 0) (q := 0) rfl dX0_begin_9 rfl ?_
  refine fr_iconst (v := 0) (by decide) dX0_begin_10 rfl ?_
  refine fr_putI dX0_begin_11 rfl fp_X0_58 k_o ?_
  refine fr_memI (fun I4 hI4 => ?_)
  have h := h I4 hI4
  refine fr_iconst (v := 0) (by decide) dX0_begin_14 rfl ?_
  refine fr_istore_n (i := 1) (lv' := [(1, .int 0), (0, rf g o)]) dX0_begin_15 rfl (by decide) rfl ?_
  exact fr_sub [1, 0] rfl h
abbrev Lp_X0_begin_26 (g : GE) (d : Nat) (o : Nat) (u1 : Int32) (u2 : Int32) (M : Mem) (r : Option Value) (M' : Mem) : Prop := Fr g d mu_X0_begin 26 [(0, rf g o), (1, .int u1), (2, .int u2)] [] M r M'
theorem wp_X0_begin_16 {g : GE} {Z : Zs} {I : Nat → Nat → Int32} {L : Nat → Nat → Int64} {r : Option Value} {M' : Mem} {o : Nat} {u1 : Int32} (k_o : KM Z o 0) (h : (((I o 2) ≤ u1 → (r = none ∧ M' = (Z, I, L))) ∧ (¬ (I o 2) ≤ u1 → Lp_X0_begin_26 g 3 o u1 0 (Z, I, L) r M'))) : Lp_X0_begin_16 g 3 o u1 (Z, I, L) r M' := by
  refine fr_iload_n (i := 1) (q := 1) rfl dX0_begin_16 rfl ?_
  refine fr_aload_n (i := 0) (q := 0) rfl dX0_begin_17 rfl ?_
  refine fr_getI dX0_begin_18 rfl fl_X0_25 k_o ?_
  refine fr_icmp_ge (tgt := 86) dX0_begin_21 (by decide) rfl (fun hc => ?_) (fun hc => ?_)
  · have h := h.1 hc
    exact fr_vret rfl dX0_begin_86 h.1 h.2
  · have h := h.2 hc
    refine fr_iconst (v := 0) (by decide) dX0_begin_24 rfl ?_
    refine fr_istore_n (i := 2) (lv' := [(2, .int 0), (0, rf g o), (1, .int u1)]) dX0_begin_25 rfl (by decide) rfl ?_
    exact fr_sub [1, 2, 0] rfl h
theorem wp_X0_begin_26 {g : GE} {Z : Zs} {I : Nat → Nat → Int32} {L : Nat → Nat → Int64} {r : Option Value} {M' : Mem} {o : Nat} {u1 : Int32} {u2 : Int32} {o_state : Nat} (k_o : KM Z o 0) (r_o_state : Z.2.1 o 0 = some o_state) (k_o_state : KM Z o_state 8) (h : ((4 ≤ u2 → (∀ y1 : Int32, y1 = (u1 + 1) → Lp_X0_begin_16 g 3 o y1 (Z, I, L) r M')) ∧ (¬ 4 ≤ u2 → (∃ (v2 : Int32), Cl g 2 mu_X8_isPose [rf g o_state, .int u1] (Z, I, L) (some (.int v2)) (Z, I, L) ∧ ((v2 = 0 → (∀ y4 : Int32, y4 = (u1 + 1) → Lp_X0_begin_16 g 3 o y4 (Z, I, L) r M')) ∧ (¬ v2 = 0 → (∀ y5 : Int32, y5 = (((u1 * (I o 2)) + ((u1 / 4) * 4)) + u2) → (∃ (I6 : Nat → Nat → Int32) (L7 : Nat → Nat → Int64), Cl g 1 mu_X0_settle [rf g o, .int y5, .int 0] (Z, I, L) none (Z, I6, L7) ∧ (∃ (I9 : Nat → Nat → Int32) (L10 : Nat → Nat → Int64), Cl g 1 mu_X0_settle [rf g o, .int ((I6 o 3) + y5), .int 0] (Z, I6, L7) none (Z, I9, L10) ∧ (∀ y12 : Int32, y12 = (u2 + 1) → Lp_X0_begin_26 g 3 o u1 y12 (Z, I9, L10) r M')))))))))) : Lp_X0_begin_26 g 3 o u1 u2 (Z, I, L) r M' := by
  refine fr_iload_n (i := 2) (q := 2) rfl dX0_begin_26 rfl ?_
  refine fr_iconst (v := 4) (by decide) dX0_begin_27 rfl ?_
  refine fr_icmp_ge (tgt := 80) dX0_begin_28 (by decide) rfl (fun hc => ?_) (fun hc => ?_)
  · have h := h.1 hc
    obtain ⟨y1, hy1⟩ : ∃ y : Int32, y = u1 + 1 := ⟨_, rfl⟩
    have h := h y1 hy1
    refine fr_iinc (q := 1) (v := y1) (lv' := [(1, .int y1), (0, rf g o), (2, .int u2)]) rfl (by rw [hy1]; rfl) dX0_begin_80 rfl (by decide) rfl ?_
    refine fr_goto (n := 16) dX0_begin_83 (by decide) ?_
    exact fr_sub [1, 0] rfl h
  · have h := h.2 hc
    refine fr_aload_n (i := 0) (q := 0) rfl dX0_begin_31 rfl ?_
    refine fr_getR dX0_begin_32 rfl fl_X0_9 k_o r_o_state ?_
    refine fr_iload_n (i := 1) (q := 1) rfl dX0_begin_35 rfl ?_
    obtain ⟨v2, hc3, h⟩ := h
    refine fr_callV2 (ν := mu_X8_isPose) (st2 := [.int v2]) (As := [.int u1]) (st := []) (v := (some (.int v2))) (M1 := (Z, I, L)) dX0_begin_36 rfl ml_X0_84 mo_X8_isPose mi_X8_isPose (ci := 8) rfl rfl k_o_state (Nat.le_of_ble_eq_true rfl) rfl rfl (Nat.le_of_ble_eq_true rfl) hc3 rfl ?_
    refine fr_if_eq (tgt := 80) dX0_begin_39 (by decide) rfl (fun hc => ?_) (fun hc => ?_)
    · have h := h.1 hc
      obtain ⟨y4, hy4⟩ : ∃ y : Int32, y = u1 + 1 := ⟨_, rfl⟩
      have h := h y4 hy4
      refine fr_iinc (q := 1) (v := y4) (lv' := [(1, .int y4), (0, rf g o), (2, .int u2)]) rfl (by rw [hy4]; rfl) dX0_begin_80 rfl (by decide) rfl ?_
      refine fr_goto (n := 16) dX0_begin_83 (by decide) ?_
      exact fr_sub [1, 0] rfl h
    · have h := h.2 hc
      refine fr_iload_n (i := 1) (q := 1) rfl dX0_begin_42 rfl ?_
      refine fr_aload_n (i := 0) (q := 0) rfl dX0_begin_43 rfl ?_
      refine fr_getI dX0_begin_44 rfl fl_X0_25 k_o ?_
      refine fr_imul dX0_begin_47 rfl ?_
      refine fr_iload_n (i := 1) (q := 1) rfl dX0_begin_48 rfl ?_
      refine fr_iconst (v := 4) (by decide) dX0_begin_49 rfl ?_
      refine fr_idiv (by decide) dX0_begin_50 rfl ?_
      refine fr_iconst (v := 4) (by decide) dX0_begin_51 rfl ?_
      refine fr_imul dX0_begin_52 rfl ?_
      refine fr_iadd dX0_begin_53 rfl ?_
      refine fr_iload_n (i := 2) (q := 2) rfl dX0_begin_54 rfl ?_
      refine fr_iadd dX0_begin_55 rfl ?_
      refine fr_topi (fun y5 hy5 => ?_)
      have h := h y5 hy5
      refine fr_istore_n (i := 3) (lv' := [(3, .int y5), (0, rf g o), (1, .int u1), (2, .int u2)]) dX0_begin_56 rfl (by decide) rfl ?_
      refine fr_aload_n (i := 0) (q := 1) rfl dX0_begin_57 rfl ?_
      refine fr_iload_n (i := 3) (q := 0) rfl dX0_begin_58 rfl ?_
      refine fr_iconst (v := 0) (by decide) dX0_begin_59 rfl ?_
      obtain ⟨I6, L7, hc8, h⟩ := h
      refine fr_callV2 (ν := mu_X0_settle) (st2 := []) (As := [.int y5, .int 0]) (st := []) (v := none) (M1 := (Z, I6, L7)) dX0_begin_60 rfl ml_X0_88 mo_X0_settle mi_X0_settle (ci := 0) rfl rfl k_o (Nat.le_of_ble_eq_true rfl) rfl rfl (Nat.le_of_ble_eq_true rfl) hc8 rfl ?_
      refine fr_aload_n (i := 0) (q := 1) rfl dX0_begin_63 rfl ?_
      refine fr_aload_n (i := 0) (q := 1) rfl dX0_begin_64 rfl ?_
      refine fr_getI dX0_begin_65 rfl fl_X0_29 k_o ?_
      refine fr_iload_n (i := 3) (q := 0) rfl dX0_begin_68 rfl ?_
      refine fr_iadd dX0_begin_69 rfl ?_
      refine fr_iconst (v := 0) (by decide) dX0_begin_70 rfl ?_
      obtain ⟨I9, L10, hc11, h⟩ := h
      refine fr_callV2 (ν := mu_X0_settle) (st2 := []) (As := [.int ((I6 o 3) + y5), .int 0]) (st := []) (v := none) (M1 := (Z, I9, L10)) dX0_begin_71 rfl ml_X0_88 mo_X0_settle mi_X0_settle (ci := 0) rfl rfl k_o (Nat.le_of_ble_eq_true rfl) rfl rfl (Nat.le_of_ble_eq_true rfl) hc11 rfl ?_
      obtain ⟨y12, hy12⟩ : ∃ y : Int32, y = u2 + 1 := ⟨_, rfl⟩
      have h := h y12 hy12
      refine fr_iinc (q := 3) (v := y12) (lv' := [(2, .int y12), (3, .int y5), (0, rf g o), (1, .int u1)]) rfl (by rw [hy12]; rfl) dX0_begin_74 rfl (by decide) rfl ?_
      refine fr_goto (n := 26) dX0_begin_77 (by decide) ?_
      exact fr_sub [2, 3, 0] rfl h
theorem cp_X0_settle {g : GE} {Z : Zs} {I : Nat → Nat → Int32} {L : Nat → Nat → Int64} {r : Option Value} {M' : Mem} {o : Nat} {x1 : Int32} {x2 : Int32} {o_left : Nat} {o_queue : Nat} (k_o : KM Z o 0) (r_o_left : Z.2.1 o 4 = some o_left) (k_o_left : KM Z o_left 13) (r_o_queue : Z.2.1 o 5 = some o_queue) (k_o_queue : KM Z o_queue 13) (h : (vp_in x1 (Z.2.2.1 o_left) ∧ (∀ I2 : Nat → Nat → Int32, I2 = rw1 I o_left (upd (I o_left) x1.toNatClampNeg x2) → (((nI (Z.2.2.1 o_queue)) ≤ (I2 o 6) → (r = none ∧ M' = (Z, I2, L))) ∧ (¬ (nI (Z.2.2.1 o_queue)) ≤ (I2 o 6) → (vp_in (I2 o 6) (Z.2.2.1 o_queue) ∧ (∀ I4 : Nat → Nat → Int32, I4 = rw1 I2 o_queue (upd (I2 o_queue) (I2 o 6).toNatClampNeg x1) → (∀ I5 : Nat → Nat → Int32, I5 = rw1 I4 o (upd (I4 o) 6 ((I4 o 6) + 1)) → (r = none ∧ M' = (Z, I5, L)))))))))) : Cl g 1 mu_X0_settle [rf g o, .int x1, .int x2] (Z, I, L) r M' := by
  refine cl_of (lv := [(0, rf g o), (1, .int x1), (2, .int x2)]) (by decide) (Nat.le_of_ble_eq_true rfl) rfl ?_
  refine fr_aload_n (i := 0) (q := 0) rfl dX0_settle_0 rfl ?_
  refine fr_getR dX0_settle_1 rfl fl_X0_32 k_o r_o_left ?_
  refine fr_iload_n (i := 1) (q := 1) rfl dX0_settle_4 rfl ?_
  refine fr_iload_n (i := 2) (q := 2) rfl dX0_settle_5 rfl ?_
  obtain ⟨hz1, h⟩ := h
  refine fr_iast dX0_settle_6 rfl k_o_left hz1 ?_
  refine fr_memI (fun I2 hI2 => ?_)
  have h := h I2 hI2
  refine fr_aload_n (i := 0) (q := 0) rfl dX0_settle_7 rfl ?_
  refine fr_getI dX0_settle_8 rfl fl_X0_58 k_o ?_
  refine fr_aload_n (i := 0) (q := 0) rfl dX0_settle_11 rfl ?_
  refine fr_getR dX0_settle_12 rfl fl_X0_36 k_o r_o_queue ?_
  refine fr_alen dX0_settle_15 rfl k_o_queue (Or.inl rfl) ?_
  refine fr_icmp_ge (tgt := 39) dX0_settle_16 (by decide) rfl (fun hc => ?_) (fun hc => ?_)
  · have h := h.1 hc
    exact fr_vret rfl dX0_settle_39 h.1 h.2
  · have h := h.2 hc
    refine fr_aload_n (i := 0) (q := 0) rfl dX0_settle_19 rfl ?_
    refine fr_getR dX0_settle_20 rfl fl_X0_36 k_o r_o_queue ?_
    refine fr_aload_n (i := 0) (q := 0) rfl dX0_settle_23 rfl ?_
    refine fr_getI dX0_settle_24 rfl fl_X0_58 k_o ?_
    refine fr_iload_n (i := 1) (q := 1) rfl dX0_settle_27 rfl ?_
    obtain ⟨hz3, h⟩ := h
    refine fr_iast dX0_settle_28 rfl k_o_queue hz3 ?_
    refine fr_memI (fun I4 hI4 => ?_)
    have h := h I4 hI4
    refine fr_aload_n (i := 0) (q := 0) rfl dX0_settle_29 rfl ?_
    refine fr_dup rfl dX0_settle_30 rfl ?_
    refine fr_getI dX0_settle_31 rfl fl_X0_58 k_o ?_
    refine fr_iconst (v := 1) (by decide) dX0_settle_34 rfl ?_
    refine fr_iadd dX0_settle_35 rfl ?_
    refine fr_putI dX0_settle_36 rfl fp_X0_58 k_o ?_
    refine fr_memI (fun I5 hI5 => ?_)
    have h := h I5 hI5
    exact fr_vret rfl dX0_settle_39 h.1 h.2
abbrev Lp_X0_settleThiefs_22 (g : GE) (d : Nat) (o : Nat) (u1 : Int32) (u2 : Int32) (u3 : Int32) (u4 : Int32) (M : Mem) (r : Option Value) (M' : Mem) : Prop := Fr g d mu_X0_settleThiefs 22 [(0, rf g o), (1, .int u1), (2, .int u2), (3, .int u3), (4, .int u4)] [] M r M'
theorem cp_X0_settleThiefs {g : GE} {Z : Zs} {I : Nat → Nat → Int32} {L : Nat → Nat → Int64} {r : Option Value} {M' : Mem} {o : Nat} {x1 : Int32} {o_thiefFirst : Nat} (k_o : KM Z o 0) (r_o_thiefFirst : Z.2.1 o 9 = some o_thiefFirst) (k_o_thiefFirst : KM Z o_thiefFirst 13) (h : (¬ (I o 2) = 0 ∧ (∀ y2 : Int32, y2 = (x1 / (I o 2)) → (¬ (I o 2) = 0 ∧ (∀ y4 : Int32, y4 = (x1 - x1 / (I o 2) * (I o 2)) → (vp_in y4 (Z.2.2.1 o_thiefFirst) ∧ (∀ y6 : Int32, y6 = (I o_thiefFirst y4.toNatClampNeg) → Lp_X0_settleThiefs_22 g 2 o x1 y2 y4 y6 (Z, I, L) r M'))))))) : Cl g 2 mu_X0_settleThiefs [rf g o, .int x1] (Z, I, L) r M' := by
  refine cl_of (lv := [(0, rf g o), (1, .int x1)]) (by decide) (Nat.le_of_ble_eq_true rfl) rfl ?_
  refine fr_iload_n (i := 1) (q := 1) rfl dX0_settleThiefs_0 rfl ?_
  refine fr_aload_n (i := 0) (q := 0) rfl dX0_settleThiefs_1 rfl ?_
  refine fr_getI dX0_settleThiefs_2 rfl fl_X0_25 k_o ?_
  obtain ⟨hz1, h⟩ := h
  refine fr_idiv hz1 dX0_settleThiefs_5 rfl ?_
  refine fr_topi (fun y2 hy2 => ?_)
  have h := h y2 hy2
  refine fr_istore_n (i := 2) (lv' := [(2, .int y2), (0, rf g o), (1, .int x1)]) dX0_settleThiefs_6 rfl (by decide) rfl ?_
  refine fr_iload_n (i := 1) (q := 2) rfl dX0_settleThiefs_7 rfl ?_
  refine fr_aload_n (i := 0) (q := 1) rfl dX0_settleThiefs_8 rfl ?_
  refine fr_getI dX0_settleThiefs_9 rfl fl_X0_25 k_o ?_
  obtain ⟨hz3, h⟩ := h
  refine fr_irem hz3 dX0_settleThiefs_12 rfl ?_
  refine fr_topi (fun y4 hy4 => ?_)
  have h := h y4 hy4
  refine fr_istore_n (i := 3) (lv' := [(3, .int y4), (2, .int y2), (0, rf g o), (1, .int x1)]) dX0_settleThiefs_13 rfl (by decide) rfl ?_
  refine fr_aload_n (i := 0) (q := 2) rfl dX0_settleThiefs_14 rfl ?_
  refine fr_getR dX0_settleThiefs_15 rfl fl_X0_45 k_o r_o_thiefFirst ?_
  refine fr_iload_n (i := 3) (q := 0) rfl dX0_settleThiefs_18 rfl ?_
  obtain ⟨hz5, h⟩ := h
  refine fr_iald dX0_settleThiefs_19 rfl k_o_thiefFirst hz5 ?_
  refine fr_topi (fun y6 hy6 => ?_)
  have h := h y6 hy6
  refine fr_istore (lv' := [(4, .int y6), (3, .int y4), (2, .int y2), (0, rf g o), (1, .int x1)]) dX0_settleThiefs_20 rfl (by decide) rfl ?_
  exact fr_sub [3, 4, 2, 1, 0] rfl h
theorem wp_X0_settleThiefs_22 {g : GE} {Z : Zs} {I : Nat → Nat → Int32} {L : Nat → Nat → Int64} {r : Option Value} {M' : Mem} {o : Nat} {u1 : Int32} {u2 : Int32} {u3 : Int32} {u4 : Int32} {o_thiefFirst : Nat} {o_thiefFrom : Nat} {o_left : Nat} (k_o : KM Z o 0) (r_o_thiefFirst : Z.2.1 o 9 = some o_thiefFirst) (k_o_thiefFirst : KM Z o_thiefFirst 13) (r_o_thiefFrom : Z.2.1 o 10 = some o_thiefFrom) (k_o_thiefFrom : KM Z o_thiefFrom 13) (r_o_left : Z.2.1 o 4 = some o_left) (k_o_left : KM Z o_left 13) (h : (vp_in (u3 + 1) (Z.2.2.1 o_thiefFirst) ∧ (((I o_thiefFirst (u3 + 1).toNatClampNeg) ≤ u4 → (r = none ∧ M' = (Z, I, L))) ∧ (¬ (I o_thiefFirst (u3 + 1).toNatClampNeg) ≤ u4 → (vp_in u4 (Z.2.2.1 o_thiefFrom) ∧ (∀ y3 : Int32, y3 = (((I o 3) + (u2 * (I o 2))) + (I o_thiefFrom u4.toNatClampNeg)) → (vp_in y3 (Z.2.2.1 o_left) ∧ ((0 ≤ (I o_left y3.toNatClampNeg) → (∀ y5 : Int32, y5 = (u4 + 1) → Lp_X0_settleThiefs_22 g 2 o u1 u2 u3 y5 (Z, I, L) r M')) ∧ (¬ 0 ≤ (I o_left y3.toNatClampNeg) → (vp_in y3 (Z.2.2.1 o_left) ∧ (vp_in y3 (Z.2.2.1 o_left) ∧ (∀ I8 : Nat → Nat → Int32, I8 = rw1 I o_left (upd (I o_left) y3.toNatClampNeg ((I o_left y3.toNatClampNeg) + 1)) → (vp_in y3 (Z.2.2.1 o_left) ∧ ((¬ (I8 o_left y3.toNatClampNeg) = 0 → (∀ y10 : Int32, y10 = (u4 + 1) → Lp_X0_settleThiefs_22 g 2 o u1 u2 u3 y10 (Z, I8, L) r M')) ∧ ((I8 o_left y3.toNatClampNeg) = 0 → (vp_in u1 (Z.2.2.1 o_left) ∧ (∃ (I12 : Nat → Nat → Int32) (L13 : Nat → Nat → Int64), Cl g 1 mu_X0_settle [rf g o, .int y3, .int ((I8 o_left u1.toNatClampNeg) + 1)] (Z, I8, L) none (Z, I12, L13) ∧ (∀ y15 : Int32, y15 = (u4 + 1) → Lp_X0_settleThiefs_22 g 2 o u1 u2 u3 y15 (Z, I12, L13) r M')))))))))))))))))) : Lp_X0_settleThiefs_22 g 2 o u1 u2 u3 u4 (Z, I, L) r M' := by
  refine fr_iload (q := 4) rfl dX0_settleThiefs_22 rfl ?_
  refine fr_aload_n (i := 0) (q := 0) rfl dX0_settleThiefs_24 rfl ?_
  refine fr_getR dX0_settleThiefs_25 rfl fl_X0_45 k_o r_o_thiefFirst ?_
  refine fr_iload_n (i := 3) (q := 3) rfl dX0_settleThiefs_28 rfl ?_
  refine fr_iconst (v := 1) (by decide) dX0_settleThiefs_29 rfl ?_
  refine fr_iadd dX0_settleThiefs_30 rfl ?_
  obtain ⟨hz1, h⟩ := h
  refine fr_iald dX0_settleThiefs_31 rfl k_o_thiefFirst hz1 ?_
  refine fr_icmp_ge (tgt := 107) dX0_settleThiefs_32 (by decide) rfl (fun hc => ?_) (fun hc => ?_)
  · have h := h.1 hc
    exact fr_vret rfl dX0_settleThiefs_107 h.1 h.2
  · have h := h.2 hc
    refine fr_aload_n (i := 0) (q := 0) rfl dX0_settleThiefs_35 rfl ?_
    refine fr_getI dX0_settleThiefs_36 rfl fl_X0_29 k_o ?_
    refine fr_iload_n (i := 2) (q := 2) rfl dX0_settleThiefs_39 rfl ?_
    refine fr_aload_n (i := 0) (q := 0) rfl dX0_settleThiefs_40 rfl ?_
    refine fr_getI dX0_settleThiefs_41 rfl fl_X0_25 k_o ?_
    refine fr_imul dX0_settleThiefs_44 rfl ?_
    refine fr_iadd dX0_settleThiefs_45 rfl ?_
    refine fr_aload_n (i := 0) (q := 0) rfl dX0_settleThiefs_46 rfl ?_
    refine fr_getR dX0_settleThiefs_47 rfl fl_X0_48 k_o r_o_thiefFrom ?_
    refine fr_iload (q := 4) rfl dX0_settleThiefs_50 rfl ?_
    obtain ⟨hz2, h⟩ := h
    refine fr_iald dX0_settleThiefs_52 rfl k_o_thiefFrom hz2 ?_
    refine fr_iadd dX0_settleThiefs_53 rfl ?_
    refine fr_topi (fun y3 hy3 => ?_)
    have h := h y3 hy3
    refine fr_istore (lv' := [(5, .int y3), (0, rf g o), (1, .int u1), (2, .int u2), (3, .int u3), (4, .int u4)]) dX0_settleThiefs_54 rfl (by decide) rfl ?_
    refine fr_aload_n (i := 0) (q := 1) rfl dX0_settleThiefs_56 rfl ?_
    refine fr_getR dX0_settleThiefs_57 rfl fl_X0_32 k_o r_o_left ?_
    refine fr_iload (q := 0) rfl dX0_settleThiefs_60 rfl ?_
    obtain ⟨hz4, h⟩ := h
    refine fr_iald dX0_settleThiefs_62 rfl k_o_left hz4 ?_
    refine fr_if_ge (tgt := 101) dX0_settleThiefs_63 (by decide) rfl (fun hc => ?_) (fun hc => ?_)
    · have h := h.1 hc
      obtain ⟨y5, hy5⟩ : ∃ y : Int32, y = u4 + 1 := ⟨_, rfl⟩
      have h := h y5 hy5
      refine fr_iinc (q := 5) (v := y5) (lv' := [(4, .int y5), (5, .int y3), (0, rf g o), (1, .int u1), (2, .int u2), (3, .int u3)]) rfl (by rw [hy5]; rfl) dX0_settleThiefs_101 rfl (by decide) rfl ?_
      refine fr_goto (n := 22) dX0_settleThiefs_104 (by decide) ?_
      exact fr_sub [2, 3, 4, 5, 0] rfl h
    · have h := h.2 hc
      refine fr_aload_n (i := 0) (q := 1) rfl dX0_settleThiefs_66 rfl ?_
      refine fr_getR dX0_settleThiefs_67 rfl fl_X0_32 k_o r_o_left ?_
      refine fr_iload (q := 0) rfl dX0_settleThiefs_70 rfl ?_
      refine fr_dup2 rfl rfl dX0_settleThiefs_72 rfl ?_
      obtain ⟨hz6, h⟩ := h
      refine fr_iald dX0_settleThiefs_73 rfl k_o_left hz6 ?_
      refine fr_iconst (v := 1) (by decide) dX0_settleThiefs_74 rfl ?_
      refine fr_iadd dX0_settleThiefs_75 rfl ?_
      obtain ⟨hz7, h⟩ := h
      refine fr_iast dX0_settleThiefs_76 rfl k_o_left hz7 ?_
      refine fr_memI (fun I8 hI8 => ?_)
      have h := h I8 hI8
      refine fr_aload_n (i := 0) (q := 1) rfl dX0_settleThiefs_77 rfl ?_
      refine fr_getR dX0_settleThiefs_78 rfl fl_X0_32 k_o r_o_left ?_
      refine fr_iload (q := 0) rfl dX0_settleThiefs_81 rfl ?_
      obtain ⟨hz9, h⟩ := h
      refine fr_iald dX0_settleThiefs_83 rfl k_o_left hz9 ?_
      refine fr_if_ne (tgt := 101) dX0_settleThiefs_84 (by decide) rfl (fun hc => ?_) (fun hc => ?_)
      · have h := h.1 hc
        obtain ⟨y10, hy10⟩ : ∃ y : Int32, y = u4 + 1 := ⟨_, rfl⟩
        have h := h y10 hy10
        refine fr_iinc (q := 5) (v := y10) (lv' := [(4, .int y10), (5, .int y3), (0, rf g o), (1, .int u1), (2, .int u2), (3, .int u3)]) rfl (by rw [hy10]; rfl) dX0_settleThiefs_101 rfl (by decide) rfl ?_
        refine fr_goto (n := 22) dX0_settleThiefs_104 (by decide) ?_
        exact fr_sub [2, 3, 4, 5, 0] rfl h
      · have h := h.2 hc
        refine fr_aload_n (i := 0) (q := 1) rfl dX0_settleThiefs_87 rfl ?_
        refine fr_iload (q := 0) rfl dX0_settleThiefs_88 rfl ?_
        refine fr_aload_n (i := 0) (q := 1) rfl dX0_settleThiefs_90 rfl ?_
        refine fr_getR dX0_settleThiefs_91 rfl fl_X0_32 k_o r_o_left ?_
        refine fr_iload_n (i := 1) (q := 2) rfl dX0_settleThiefs_94 rfl ?_
        obtain ⟨hz11, h⟩ := h
        refine fr_iald dX0_settleThiefs_95 rfl k_o_left hz11 ?_
        refine fr_iconst (v := 1) (by decide) dX0_settleThiefs_96 rfl ?_
        refine fr_iadd dX0_settleThiefs_97 rfl ?_
        obtain ⟨I12, L13, hc14, h⟩ := h
        refine fr_callV2 (ν := mu_X0_settle) (st2 := []) (As := [.int y3, .int ((I8 o_left u1.toNatClampNeg) + 1)]) (st := []) (v := none) (M1 := (Z, I12, L13)) dX0_settleThiefs_98 rfl ml_X0_88 mo_X0_settle mi_X0_settle (ci := 0) rfl rfl k_o (Nat.le_of_ble_eq_true rfl) rfl rfl (Nat.le_of_ble_eq_true rfl) hc14 rfl ?_
        obtain ⟨y15, hy15⟩ : ∃ y : Int32, y = u4 + 1 := ⟨_, rfl⟩
        have h := h y15 hy15
        refine fr_iinc (q := 5) (v := y15) (lv' := [(4, .int y15), (5, .int y3), (0, rf g o), (1, .int u1), (2, .int u2), (3, .int u3)]) rfl (by rw [hy15]; rfl) dX0_settleThiefs_101 rfl (by decide) rfl ?_
        refine fr_goto (n := 22) dX0_settleThiefs_104 (by decide) ?_
        exact fr_sub [2, 3, 4, 5, 0] rfl h
abbrev Lp_X0_settleCatchers_27 (g : GE) (d : Nat) (o : Nat) (u1 : Int32) (u2 : Int32) (u3 : Int32) (u4 : Int32) (M : Mem) (r : Option Value) (M' : Mem) : Prop := Fr g d mu_X0_settleCatchers 27 [(0, rf g o), (1, .int u1), (2, .int u2), (3, .int u3), (4, .int u4)] [] M r M'
theorem cp_X0_settleCatchers {g : GE} {Z : Zs} {I : Nat → Nat → Int32} {L : Nat → Nat → Int64} {r : Option Value} {M' : Mem} {o : Nat} {x1 : Int32} {o_catcherFirst : Nat} (k_o : KM Z o 0) (r_o_catcherFirst : Z.2.1 o 7 = some o_catcherFirst) (k_o_catcherFirst : KM Z o_catcherFirst 13) (h : (¬ (I o 2) = 0 ∧ (∀ y2 : Int32, y2 = ((x1 - (I o 3)) / (I o 2)) → (¬ (I o 2) = 0 ∧ (∀ y4 : Int32, y4 = (x1 - x1 / (I o 2) * (I o 2)) → (vp_in y2 (Z.2.2.1 o_catcherFirst) ∧ (∀ y6 : Int32, y6 = (I o_catcherFirst y2.toNatClampNeg) → Lp_X0_settleCatchers_27 g 2 o x1 y2 y4 y6 (Z, I, L) r M'))))))) : Cl g 2 mu_X0_settleCatchers [rf g o, .int x1] (Z, I, L) r M' := by
  refine cl_of (lv := [(0, rf g o), (1, .int x1)]) (by decide) (Nat.le_of_ble_eq_true rfl) rfl ?_
  refine fr_iload_n (i := 1) (q := 1) rfl dX0_settleCatchers_0 rfl ?_
  refine fr_aload_n (i := 0) (q := 0) rfl dX0_settleCatchers_1 rfl ?_
  refine fr_getI dX0_settleCatchers_2 rfl fl_X0_29 k_o ?_
  refine fr_isub dX0_settleCatchers_5 rfl ?_
  refine fr_aload_n (i := 0) (q := 0) rfl dX0_settleCatchers_6 rfl ?_
  refine fr_getI dX0_settleCatchers_7 rfl fl_X0_25 k_o ?_
  obtain ⟨hz1, h⟩ := h
  refine fr_idiv hz1 dX0_settleCatchers_10 rfl ?_
  refine fr_topi (fun y2 hy2 => ?_)
  have h := h y2 hy2
  refine fr_istore_n (i := 2) (lv' := [(2, .int y2), (0, rf g o), (1, .int x1)]) dX0_settleCatchers_11 rfl (by decide) rfl ?_
  refine fr_iload_n (i := 1) (q := 2) rfl dX0_settleCatchers_12 rfl ?_
  refine fr_aload_n (i := 0) (q := 1) rfl dX0_settleCatchers_13 rfl ?_
  refine fr_getI dX0_settleCatchers_14 rfl fl_X0_25 k_o ?_
  obtain ⟨hz3, h⟩ := h
  refine fr_irem hz3 dX0_settleCatchers_17 rfl ?_
  refine fr_topi (fun y4 hy4 => ?_)
  have h := h y4 hy4
  refine fr_istore_n (i := 3) (lv' := [(3, .int y4), (2, .int y2), (0, rf g o), (1, .int x1)]) dX0_settleCatchers_18 rfl (by decide) rfl ?_
  refine fr_aload_n (i := 0) (q := 2) rfl dX0_settleCatchers_19 rfl ?_
  refine fr_getR dX0_settleCatchers_20 rfl fl_X0_39 k_o r_o_catcherFirst ?_
  refine fr_iload_n (i := 2) (q := 1) rfl dX0_settleCatchers_23 rfl ?_
  obtain ⟨hz5, h⟩ := h
  refine fr_iald dX0_settleCatchers_24 rfl k_o_catcherFirst hz5 ?_
  refine fr_topi (fun y6 hy6 => ?_)
  have h := h y6 hy6
  refine fr_istore (lv' := [(4, .int y6), (3, .int y4), (2, .int y2), (0, rf g o), (1, .int x1)]) dX0_settleCatchers_25 rfl (by decide) rfl ?_
  exact fr_sub [3, 4, 2, 1, 0] rfl h
theorem wp_X0_settleCatchers_27 {g : GE} {Z : Zs} {I : Nat → Nat → Int32} {L : Nat → Nat → Int64} {r : Option Value} {M' : Mem} {o : Nat} {u1 : Int32} {u2 : Int32} {u3 : Int32} {u4 : Int32} {o_catcherFirst : Nat} {o_catcherFrom : Nat} {o_left : Nat} (k_o : KM Z o 0) (r_o_catcherFirst : Z.2.1 o 7 = some o_catcherFirst) (k_o_catcherFirst : KM Z o_catcherFirst 13) (r_o_catcherFrom : Z.2.1 o 8 = some o_catcherFrom) (k_o_catcherFrom : KM Z o_catcherFrom 13) (r_o_left : Z.2.1 o 4 = some o_left) (k_o_left : KM Z o_left 13) (h : (vp_in (u2 + 1) (Z.2.2.1 o_catcherFirst) ∧ (((I o_catcherFirst (u2 + 1).toNatClampNeg) ≤ u4 → (r = none ∧ M' = (Z, I, L))) ∧ (¬ (I o_catcherFirst (u2 + 1).toNatClampNeg) ≤ u4 → (vp_in u4 (Z.2.2.1 o_catcherFrom) ∧ (∀ y3 : Int32, y3 = (((I o_catcherFrom u4.toNatClampNeg) * (I o 2)) + u3) → (vp_in y3 (Z.2.2.1 o_left) ∧ ((0 ≤ (I o_left y3.toNatClampNeg) → (∀ y5 : Int32, y5 = (u4 + 1) → Lp_X0_settleCatchers_27 g 2 o u1 u2 u3 y5 (Z, I, L) r M')) ∧ (¬ 0 ≤ (I o_left y3.toNatClampNeg) → (vp_in u1 (Z.2.2.1 o_left) ∧ (∃ (I7 : Nat → Nat → Int32) (L8 : Nat → Nat → Int64), Cl g 1 mu_X0_settle [rf g o, .int y3, .int ((I o_left u1.toNatClampNeg) + 1)] (Z, I, L) none (Z, I7, L8) ∧ (∀ y10 : Int32, y10 = (u4 + 1) → Lp_X0_settleCatchers_27 g 2 o u1 u2 u3 y10 (Z, I7, L8) r M')))))))))))) : Lp_X0_settleCatchers_27 g 2 o u1 u2 u3 u4 (Z, I, L) r M' := by
  refine fr_iload (q := 4) rfl dX0_settleCatchers_27 rfl ?_
  refine fr_aload_n (i := 0) (q := 0) rfl dX0_settleCatchers_29 rfl ?_
  refine fr_getR dX0_settleCatchers_30 rfl fl_X0_39 k_o r_o_catcherFirst ?_
  refine fr_iload_n (i := 2) (q := 2) rfl dX0_settleCatchers_33 rfl ?_
  refine fr_iconst (v := 1) (by decide) dX0_settleCatchers_34 rfl ?_
  refine fr_iadd dX0_settleCatchers_35 rfl ?_
  obtain ⟨hz1, h⟩ := h
  refine fr_iald dX0_settleCatchers_36 rfl k_o_catcherFirst hz1 ?_
  refine fr_icmp_ge (tgt := 86) dX0_settleCatchers_37 (by decide) rfl (fun hc => ?_) (fun hc => ?_)
  · have h := h.1 hc
    exact fr_vret rfl dX0_settleCatchers_86 h.1 h.2
  · have h := h.2 hc
    refine fr_aload_n (i := 0) (q := 0) rfl dX0_settleCatchers_40 rfl ?_
    refine fr_getR dX0_settleCatchers_41 rfl fl_X0_42 k_o r_o_catcherFrom ?_
    refine fr_iload (q := 4) rfl dX0_settleCatchers_44 rfl ?_
    obtain ⟨hz2, h⟩ := h
    refine fr_iald dX0_settleCatchers_46 rfl k_o_catcherFrom hz2 ?_
    refine fr_aload_n (i := 0) (q := 0) rfl dX0_settleCatchers_47 rfl ?_
    refine fr_getI dX0_settleCatchers_48 rfl fl_X0_25 k_o ?_
    refine fr_imul dX0_settleCatchers_51 rfl ?_
    refine fr_iload_n (i := 3) (q := 3) rfl dX0_settleCatchers_52 rfl ?_
    refine fr_iadd dX0_settleCatchers_53 rfl ?_
    refine fr_topi (fun y3 hy3 => ?_)
    have h := h y3 hy3
    refine fr_istore (lv' := [(5, .int y3), (0, rf g o), (1, .int u1), (2, .int u2), (3, .int u3), (4, .int u4)]) dX0_settleCatchers_54 rfl (by decide) rfl ?_
    refine fr_aload_n (i := 0) (q := 1) rfl dX0_settleCatchers_56 rfl ?_
    refine fr_getR dX0_settleCatchers_57 rfl fl_X0_32 k_o r_o_left ?_
    refine fr_iload (q := 0) rfl dX0_settleCatchers_60 rfl ?_
    obtain ⟨hz4, h⟩ := h
    refine fr_iald dX0_settleCatchers_62 rfl k_o_left hz4 ?_
    refine fr_if_ge (tgt := 80) dX0_settleCatchers_63 (by decide) rfl (fun hc => ?_) (fun hc => ?_)
    · have h := h.1 hc
      obtain ⟨y5, hy5⟩ : ∃ y : Int32, y = u4 + 1 := ⟨_, rfl⟩
      have h := h y5 hy5
      refine fr_iinc (q := 5) (v := y5) (lv' := [(4, .int y5), (5, .int y3), (0, rf g o), (1, .int u1), (2, .int u2), (3, .int u3)]) rfl (by rw [hy5]; rfl) dX0_settleCatchers_80 rfl (by decide) rfl ?_
      refine fr_goto (n := 27) dX0_settleCatchers_83 (by decide) ?_
      exact fr_sub [2, 3, 4, 5, 0] rfl h
    · have h := h.2 hc
      refine fr_aload_n (i := 0) (q := 1) rfl dX0_settleCatchers_66 rfl ?_
      refine fr_iload (q := 0) rfl dX0_settleCatchers_67 rfl ?_
      refine fr_aload_n (i := 0) (q := 1) rfl dX0_settleCatchers_69 rfl ?_
      refine fr_getR dX0_settleCatchers_70 rfl fl_X0_32 k_o r_o_left ?_
      refine fr_iload_n (i := 1) (q := 2) rfl dX0_settleCatchers_73 rfl ?_
      obtain ⟨hz6, h⟩ := h
      refine fr_iald dX0_settleCatchers_74 rfl k_o_left hz6 ?_
      refine fr_iconst (v := 1) (by decide) dX0_settleCatchers_75 rfl ?_
      refine fr_iadd dX0_settleCatchers_76 rfl ?_
      obtain ⟨I7, L8, hc9, h⟩ := h
      refine fr_callV2 (ν := mu_X0_settle) (st2 := []) (As := [.int y3, .int ((I o_left u1.toNatClampNeg) + 1)]) (st := []) (v := none) (M1 := (Z, I7, L8)) dX0_settleCatchers_77 rfl ml_X0_88 mo_X0_settle mi_X0_settle (ci := 0) rfl rfl k_o (Nat.le_of_ble_eq_true rfl) rfl rfl (Nat.le_of_ble_eq_true rfl) hc9 rfl ?_
      obtain ⟨y10, hy10⟩ : ∃ y : Int32, y = u4 + 1 := ⟨_, rfl⟩
      have h := h y10 hy10
      refine fr_iinc (q := 5) (v := y10) (lv' := [(4, .int y10), (5, .int y3), (0, rf g o), (1, .int u1), (2, .int u2), (3, .int u3)]) rfl (by rw [hy10]; rfl) dX0_settleCatchers_80 rfl (by decide) rfl ?_
      refine fr_goto (n := 27) dX0_settleCatchers_83 (by decide) ?_
      exact fr_sub [2, 3, 4, 5, 0] rfl h
