theorem cp_X5_found {g : GE} {Z : Zs} {I : Nat → Nat → Int32} {L : Nat → Nat → Int64} {r : Option Value} {M' : Mem} {o : Nat} (k_o : KM Z o 5) (h : (r = some (.int (I o 8)) ∧ M' = (Z, I, L))) : Cl g 1 mu_X5_found [rf g o] (Z, I, L) r M' := by
  refine cl_of (lv := [(0, rf g o)]) (by decide) (Nat.le_of_ble_eq_true rfl) rfl ?_
  refine fr_aload_n (i := 0) (q := 0) rfl dX5_found_0 rfl ?_
  refine fr_getI dX5_found_1 rfl fl_X5_25 k_o ?_
  exact fr_iret rfl dX5_found_4 h.1 h.2
theorem cp_X5_foundAt {g : GE} {Z : Zs} {I : Nat → Nat → Int32} {L : Nat → Nat → Int64} {r : Option Value} {M' : Mem} {o : Nat} (k_o : KM Z o 5) (h : (r = some (.int (I o 9)) ∧ M' = (Z, I, L))) : Cl g 1 mu_X5_foundAt [rf g o] (Z, I, L) r M' := by
  refine cl_of (lv := [(0, rf g o)]) (by decide) (Nat.le_of_ble_eq_true rfl) rfl ?_
  refine fr_aload_n (i := 0) (q := 0) rfl dX5_foundAt_0 rfl ?_
  refine fr_getI dX5_foundAt_1 rfl fl_X5_29 k_o ?_
  exact fr_iret rfl dX5_foundAt_4 h.1 h.2
theorem cp_X5_readClause {g : GE} {Z : Zs} {I : Nat → Nat → Int32} {L : Nat → Nat → Int64} {r : Option Value} {M' : Mem} {o : Nat} {o_starts : Nat} (k_o : KM Z o 5) (r_o_starts : Z.2.1 o 2 = some o_starts) (k_o_starts : KM Z o_starts 13) (h : (((I o 5) = 11 → (∀ I1 : Nat → Nat → Int32, I1 = rw1 I o (upd (I o) 6 (I o 5)) → (vp_in ((I1 o 6) - 11) (Z.2.2.1 o_starts) ∧ (((I1 o_starts ((I1 o 6) - 11).toNatClampNeg) = ((-1)) → (vp_in ((I1 o 6) - 11) (Z.2.2.1 o_starts) ∧ (∀ I4 : Nat → Nat → Int32, I4 = rw1 I1 o_starts (upd (I1 o_starts) ((I1 o 6) - 11).toNatClampNeg (I1 o 3)) → (∃ (I5 : Nat → Nat → Int32) (L6 : Nat → Nat → Int64), Cl g 3 mu_X5_next [rf g o] (Z, I4, L) none (Z, I5, L6) ∧ ((¬ (I5 o 6) = 12 → (∃ (I8 : Nat → Nat → Int32) (L9 : Nat → Nat → Int64), Cl g 80 mu_X5_readSum [rf g o] (Z, I5, L6) none (Z, I8, L9) ∧ (∃ (I11 : Nat → Nat → Int32) (L12 : Nat → Nat → Int64), Cl g 4 mu_X5_take [rf g o, .int 33] (Z, I8, L9) none (Z, I11, L12) ∧ (∃ (I14 : Nat → Nat → Int32) (L15 : Nat → Nat → Int64), Cl g 1 mu_X5_order [rf g o, .int 33] (Z, I11, L12) none (Z, I14, L15) ∧ (r = none ∧ M' = (Z, I14, L15)))))) ∧ ((I5 o 6) = 12 → (∃ (I17 : Nat → Nat → Int32) (L18 : Nat → Nat → Int64), Cl g 80 mu_X5_readEither [rf g o] (Z, I5, L6) none (Z, I17, L18) ∧ (∃ (I20 : Nat → Nat → Int32) (L21 : Nat → Nat → Int64), Cl g 4 mu_X5_take [rf g o, .int 33] (Z, I17, L18) none (Z, I20, L21) ∧ (∃ (I23 : Nat → Nat → Int32) (L24 : Nat → Nat → Int64), Cl g 1 mu_X5_order [rf g o, .int 33] (Z, I20, L21) none (Z, I23, L24) ∧ (r = none ∧ M' = (Z, I23, L24))))))))))) ∧ (¬ (I1 o_starts ((I1 o 6) - 11).toNatClampNeg) = ((-1)) → (∃ (I26 : Nat → Nat → Int32) (L27 : Nat → Nat → Int64), Cl g 3 mu_X5_fail [rf g o, .int 4] (Z, I1, L) none (Z, I26, L27) ∧ (r = none ∧ M' = (Z, I26, L27)))))))) ∧ (¬ (I o 5) = 11 → (((I o 5) = 12 → (∀ I29 : Nat → Nat → Int32, I29 = rw1 I o (upd (I o) 6 (I o 5)) → (vp_in ((I29 o 6) - 11) (Z.2.2.1 o_starts) ∧ (((I29 o_starts ((I29 o 6) - 11).toNatClampNeg) = ((-1)) → (vp_in ((I29 o 6) - 11) (Z.2.2.1 o_starts) ∧ (∀ I32 : Nat → Nat → Int32, I32 = rw1 I29 o_starts (upd (I29 o_starts) ((I29 o 6) - 11).toNatClampNeg (I29 o 3)) → (∃ (I33 : Nat → Nat → Int32) (L34 : Nat → Nat → Int64), Cl g 3 mu_X5_next [rf g o] (Z, I32, L) none (Z, I33, L34) ∧ ((¬ (I33 o 6) = 12 → (∃ (I36 : Nat → Nat → Int32) (L37 : Nat → Nat → Int64), Cl g 80 mu_X5_readSum [rf g o] (Z, I33, L34) none (Z, I36, L37) ∧ (∃ (I39 : Nat → Nat → Int32) (L40 : Nat → Nat → Int64), Cl g 4 mu_X5_take [rf g o, .int 33] (Z, I36, L37) none (Z, I39, L40) ∧ (∃ (I42 : Nat → Nat → Int32) (L43 : Nat → Nat → Int64), Cl g 1 mu_X5_order [rf g o, .int 33] (Z, I39, L40) none (Z, I42, L43) ∧ (r = none ∧ M' = (Z, I42, L43)))))) ∧ ((I33 o 6) = 12 → (∃ (I45 : Nat → Nat → Int32) (L46 : Nat → Nat → Int64), Cl g 80 mu_X5_readEither [rf g o] (Z, I33, L34) none (Z, I45, L46) ∧ (∃ (I48 : Nat → Nat → Int32) (L49 : Nat → Nat → Int64), Cl g 4 mu_X5_take [rf g o, .int 33] (Z, I45, L46) none (Z, I48, L49) ∧ (∃ (I51 : Nat → Nat → Int32) (L52 : Nat → Nat → Int64), Cl g 1 mu_X5_order [rf g o, .int 33] (Z, I48, L49) none (Z, I51, L52) ∧ (r = none ∧ M' = (Z, I51, L52))))))))))) ∧ (¬ (I29 o_starts ((I29 o 6) - 11).toNatClampNeg) = ((-1)) → (∃ (I54 : Nat → Nat → Int32) (L55 : Nat → Nat → Int64), Cl g 3 mu_X5_fail [rf g o, .int 4] (Z, I29, L) none (Z, I54, L55) ∧ (r = none ∧ M' = (Z, I54, L55)))))))) ∧ (¬ (I o 5) = 12 → (((I o 5) = 13 → (∀ I57 : Nat → Nat → Int32, I57 = rw1 I o (upd (I o) 6 (I o 5)) → (vp_in ((I57 o 6) - 11) (Z.2.2.1 o_starts) ∧ (((I57 o_starts ((I57 o 6) - 11).toNatClampNeg) = ((-1)) → (vp_in ((I57 o 6) - 11) (Z.2.2.1 o_starts) ∧ (∀ I60 : Nat → Nat → Int32, I60 = rw1 I57 o_starts (upd (I57 o_starts) ((I57 o 6) - 11).toNatClampNeg (I57 o 3)) → (∃ (I61 : Nat → Nat → Int32) (L62 : Nat → Nat → Int64), Cl g 3 mu_X5_next [rf g o] (Z, I60, L) none (Z, I61, L62) ∧ ((¬ (I61 o 6) = 12 → (∃ (I64 : Nat → Nat → Int32) (L65 : Nat → Nat → Int64), Cl g 80 mu_X5_readSum [rf g o] (Z, I61, L62) none (Z, I64, L65) ∧ (∃ (I67 : Nat → Nat → Int32) (L68 : Nat → Nat → Int64), Cl g 4 mu_X5_take [rf g o, .int 33] (Z, I64, L65) none (Z, I67, L68) ∧ (∃ (I70 : Nat → Nat → Int32) (L71 : Nat → Nat → Int64), Cl g 1 mu_X5_order [rf g o, .int 33] (Z, I67, L68) none (Z, I70, L71) ∧ (r = none ∧ M' = (Z, I70, L71)))))) ∧ ((I61 o 6) = 12 → (∃ (I73 : Nat → Nat → Int32) (L74 : Nat → Nat → Int64), Cl g 80 mu_X5_readEither [rf g o] (Z, I61, L62) none (Z, I73, L74) ∧ (∃ (I76 : Nat → Nat → Int32) (L77 : Nat → Nat → Int64), Cl g 4 mu_X5_take [rf g o, .int 33] (Z, I73, L74) none (Z, I76, L77) ∧ (∃ (I79 : Nat → Nat → Int32) (L80 : Nat → Nat → Int64), Cl g 1 mu_X5_order [rf g o, .int 33] (Z, I76, L77) none (Z, I79, L80) ∧ (r = none ∧ M' = (Z, I79, L80))))))))))) ∧ (¬ (I57 o_starts ((I57 o 6) - 11).toNatClampNeg) = ((-1)) → (∃ (I82 : Nat → Nat → Int32) (L83 : Nat → Nat → Int64), Cl g 3 mu_X5_fail [rf g o, .int 4] (Z, I57, L) none (Z, I82, L83) ∧ (r = none ∧ M' = (Z, I82, L83)))))))) ∧ (¬ (I o 5) = 13 → (∃ (I85 : Nat → Nat → Int32) (L86 : Nat → Nat → Int64), Cl g 3 mu_X5_fail [rf g o, .int 1] (Z, I, L) none (Z, I85, L86) ∧ (r = none ∧ M' = (Z, I85, L86)))))))))) : Cl g 81 mu_X5_readClause [rf g o] (Z, I, L) r M' := by
  refine cl_of (lv := [(0, rf g o)]) (by decide) (Nat.le_of_ble_eq_true rfl) rfl ?_
  refine fr_aload_n (i := 0) (q := 0) rfl dX5_readClause_0 rfl ?_
  refine fr_getI dX5_readClause_1 rfl fl_X5_52 k_o ?_
  refine fr_bipush (v := 11) (by decide) dX5_readClause_4 rfl ?_
  refine fr_icmp_eq (tgt := 33) dX5_readClause_6 (by decide) rfl (fun hc => ?_) (fun hc => ?_)
  · have h := h.1 hc
    refine fr_aload_n (i := 0) (q := 0) rfl dX5_readClause_33 rfl ?_
    refine fr_aload_n (i := 0) (q := 0) rfl dX5_readClause_34 rfl ?_
    refine fr_getI dX5_readClause_35 rfl fl_X5_52 k_o ?_
    refine fr_putI dX5_readClause_38 rfl fp_X5_74 k_o ?_
    refine fr_memI (fun I1 hI1 => ?_)
    have h := h I1 hI1
    refine fr_aload_n (i := 0) (q := 0) rfl dX5_readClause_41 rfl ?_
    refine fr_getR dX5_readClause_42 rfl fl_X5_22 k_o r_o_starts ?_
    refine fr_aload_n (i := 0) (q := 0) rfl dX5_readClause_45 rfl ?_
    refine fr_getI dX5_readClause_46 rfl fl_X5_74 k_o ?_
    refine fr_bipush (v := 11) (by decide) dX5_readClause_49 rfl ?_
    refine fr_isub dX5_readClause_51 rfl ?_
    obtain ⟨hz2, h⟩ := h
    refine fr_iald dX5_readClause_52 rfl k_o_starts hz2 ?_
    refine fr_iconst (v := (-1)) (by decide) dX5_readClause_53 rfl ?_
    refine fr_icmp_eq (tgt := 63) dX5_readClause_54 (by decide) rfl (fun hc => ?_) (fun hc => ?_)
    · have h := h.1 hc
      refine fr_aload_n (i := 0) (q := 0) rfl dX5_readClause_63 rfl ?_
      refine fr_getR dX5_readClause_64 rfl fl_X5_22 k_o r_o_starts ?_
      refine fr_aload_n (i := 0) (q := 0) rfl dX5_readClause_67 rfl ?_
      refine fr_getI dX5_readClause_68 rfl fl_X5_74 k_o ?_
      refine fr_bipush (v := 11) (by decide) dX5_readClause_71 rfl ?_
      refine fr_isub dX5_readClause_73 rfl ?_
      refine fr_aload_n (i := 0) (q := 0) rfl dX5_readClause_74 rfl ?_
      refine fr_getI dX5_readClause_75 rfl fl_X5_42 k_o ?_
      obtain ⟨hz3, h⟩ := h
      refine fr_iast dX5_readClause_78 rfl k_o_starts hz3 ?_
      refine fr_memI (fun I4 hI4 => ?_)
      have h := h I4 hI4
      refine fr_aload_n (i := 0) (q := 0) rfl dX5_readClause_79 rfl ?_
      obtain ⟨I5, L6, hc7, h⟩ := h
      refine fr_callV2 (ν := mu_X5_next) (st2 := []) (As := []) (st := []) (v := none) (M1 := (Z, I5, L6)) dX5_readClause_80 rfl ml_X5_77 mo_X5_next mi_X5_next (ci := 5) rfl rfl k_o (Nat.le_of_ble_eq_true rfl) rfl rfl (Nat.le_of_ble_eq_true rfl) hc7 rfl ?_
      refine fr_aload_n (i := 0) (q := 0) rfl dX5_readClause_83 rfl ?_
      refine fr_getI dX5_readClause_84 rfl fl_X5_74 k_o ?_
      refine fr_bipush (v := 12) (by decide) dX5_readClause_87 rfl ?_
      refine fr_icmp_ne (tgt := 99) dX5_readClause_89 (by decide) rfl (fun hc => ?_) (fun hc => ?_)
      · have h := h.1 hc
        refine fr_aload_n (i := 0) (q := 0) rfl dX5_readClause_99 rfl ?_
        obtain ⟨I8, L9, hc10, h⟩ := h
        refine fr_callV2 (ν := mu_X5_readSum) (st2 := []) (As := []) (st := []) (v := none) (M1 := (Z, I8, L9)) dX5_readClause_100 rfl ml_X5_83 mo_X5_readSum mi_X5_readSum (ci := 5) rfl rfl k_o (Nat.le_of_ble_eq_true rfl) rfl rfl (Nat.le_of_ble_eq_true rfl) hc10 rfl ?_
        refine fr_aload_n (i := 0) (q := 0) rfl dX5_readClause_103 rfl ?_
        refine fr_bipush (v := 33) (by decide) dX5_readClause_104 rfl ?_
        obtain ⟨I11, L12, hc13, h⟩ := h
        refine fr_callV2 (ν := mu_X5_take) (st2 := []) (As := [.int 33]) (st := []) (v := none) (M1 := (Z, I11, L12)) dX5_readClause_106 rfl ml_X5_86 mo_X5_take mi_X5_take (ci := 5) rfl rfl k_o (Nat.le_of_ble_eq_true rfl) rfl rfl (Nat.le_of_ble_eq_true rfl) hc13 rfl ?_
        refine fr_aload_n (i := 0) (q := 0) rfl dX5_readClause_109 rfl ?_
        refine fr_bipush (v := 33) (by decide) dX5_readClause_110 rfl ?_
        obtain ⟨I14, L15, hc16, h⟩ := h
        refine fr_callV2 (ν := mu_X5_order) (st2 := []) (As := [.int 33]) (st := []) (v := none) (M1 := (Z, I14, L15)) dX5_readClause_112 rfl ml_X5_89 mo_X5_order mi_X5_order (ci := 5) rfl rfl k_o (Nat.le_of_ble_eq_true rfl) rfl rfl (Nat.le_of_ble_eq_true rfl) hc16 rfl ?_
        exact fr_vret rfl dX5_readClause_115 h.1 h.2
      · have h := h.2 hc
        refine fr_aload_n (i := 0) (q := 0) rfl dX5_readClause_92 rfl ?_
        obtain ⟨I17, L18, hc19, h⟩ := h
        refine fr_callV2 (ν := mu_X5_readEither) (st2 := []) (As := []) (st := []) (v := none) (M1 := (Z, I17, L18)) dX5_readClause_93 rfl ml_X5_80 mo_X5_readEither mi_X5_readEither (ci := 5) rfl rfl k_o (Nat.le_of_ble_eq_true rfl) rfl rfl (Nat.le_of_ble_eq_true rfl) hc19 rfl ?_
        refine fr_goto (n := 103) dX5_readClause_96 (by decide) ?_
        refine fr_aload_n (i := 0) (q := 0) rfl dX5_readClause_103 rfl ?_
        refine fr_bipush (v := 33) (by decide) dX5_readClause_104 rfl ?_
        obtain ⟨I20, L21, hc22, h⟩ := h
        refine fr_callV2 (ν := mu_X5_take) (st2 := []) (As := [.int 33]) (st := []) (v := none) (M1 := (Z, I20, L21)) dX5_readClause_106 rfl ml_X5_86 mo_X5_take mi_X5_take (ci := 5) rfl rfl k_o (Nat.le_of_ble_eq_true rfl) rfl rfl (Nat.le_of_ble_eq_true rfl) hc22 rfl ?_
        refine fr_aload_n (i := 0) (q := 0) rfl dX5_readClause_109 rfl ?_
        refine fr_bipush (v := 33) (by decide) dX5_readClause_110 rfl ?_
        obtain ⟨I23, L24, hc25, h⟩ := h
        refine fr_callV2 (ν := mu_X5_order) (st2 := []) (As := [.int 33]) (st := []) (v := none) (M1 := (Z, I23, L24)) dX5_readClause_112 rfl ml_X5_89 mo_X5_order mi_X5_order (ci := 5) rfl rfl k_o (Nat.le_of_ble_eq_true rfl) rfl rfl (Nat.le_of_ble_eq_true rfl) hc25 rfl ?_
        exact fr_vret rfl dX5_readClause_115 h.1 h.2
    · have h := h.2 hc
      refine fr_aload_n (i := 0) (q := 0) rfl dX5_readClause_57 rfl ?_
      refine fr_iconst (v := 4) (by decide) dX5_readClause_58 rfl ?_
      obtain ⟨I26, L27, hc28, h⟩ := h
      refine fr_callV2 (ν := mu_X5_fail) (st2 := []) (As := [.int 4]) (st := []) (v := none) (M1 := (Z, I26, L27)) dX5_readClause_59 rfl ml_X5_70 mo_X5_fail mi_X5_fail (ci := 5) rfl rfl k_o (Nat.le_of_ble_eq_true rfl) rfl rfl (Nat.le_of_ble_eq_true rfl) hc28 rfl ?_
      exact fr_vret rfl dX5_readClause_62 h.1 h.2
  · have h := h.2 hc
    refine fr_aload_n (i := 0) (q := 0) rfl dX5_readClause_9 rfl ?_
    refine fr_getI dX5_readClause_10 rfl fl_X5_52 k_o ?_
    refine fr_bipush (v := 12) (by decide) dX5_readClause_13 rfl ?_
    refine fr_icmp_eq (tgt := 33) dX5_readClause_15 (by decide) rfl (fun hc => ?_) (fun hc => ?_)
    · have h := h.1 hc
      refine fr_aload_n (i := 0) (q := 0) rfl dX5_readClause_33 rfl ?_
      refine fr_aload_n (i := 0) (q := 0) rfl dX5_readClause_34 rfl ?_
      refine fr_getI dX5_readClause_35 rfl fl_X5_52 k_o ?_
      refine fr_putI dX5_readClause_38 rfl fp_X5_74 k_o ?_
      refine fr_memI (fun I29 hI29 => ?_)
      have h := h I29 hI29
      refine fr_aload_n (i := 0) (q := 0) rfl dX5_readClause_41 rfl ?_
      refine fr_getR dX5_readClause_42 rfl fl_X5_22 k_o r_o_starts ?_
      refine fr_aload_n (i := 0) (q := 0) rfl dX5_readClause_45 rfl ?_
      refine fr_getI dX5_readClause_46 rfl fl_X5_74 k_o ?_
      refine fr_bipush (v := 11) (by decide) dX5_readClause_49 rfl ?_
      refine fr_isub dX5_readClause_51 rfl ?_
      obtain ⟨hz30, h⟩ := h
      refine fr_iald dX5_readClause_52 rfl k_o_starts hz30 ?_
      refine fr_iconst (v := (-1)) (by decide) dX5_readClause_53 rfl ?_
      refine fr_icmp_eq (tgt := 63) dX5_readClause_54 (by decide) rfl (fun hc => ?_) (fun hc => ?_)
      · have h := h.1 hc
        refine fr_aload_n (i := 0) (q := 0) rfl dX5_readClause_63 rfl ?_
        refine fr_getR dX5_readClause_64 rfl fl_X5_22 k_o r_o_starts ?_
        refine fr_aload_n (i := 0) (q := 0) rfl dX5_readClause_67 rfl ?_
        refine fr_getI dX5_readClause_68 rfl fl_X5_74 k_o ?_
        refine fr_bipush (v := 11) (by decide) dX5_readClause_71 rfl ?_
        refine fr_isub dX5_readClause_73 rfl ?_
        refine fr_aload_n (i := 0) (q := 0) rfl dX5_readClause_74 rfl ?_
        refine fr_getI dX5_readClause_75 rfl fl_X5_42 k_o ?_
        obtain ⟨hz31, h⟩ := h
        refine fr_iast dX5_readClause_78 rfl k_o_starts hz31 ?_
        refine fr_memI (fun I32 hI32 => ?_)
        have h := h I32 hI32
        refine fr_aload_n (i := 0) (q := 0) rfl dX5_readClause_79 rfl ?_
        obtain ⟨I33, L34, hc35, h⟩ := h
        refine fr_callV2 (ν := mu_X5_next) (st2 := []) (As := []) (st := []) (v := none) (M1 := (Z, I33, L34)) dX5_readClause_80 rfl ml_X5_77 mo_X5_next mi_X5_next (ci := 5) rfl rfl k_o (Nat.le_of_ble_eq_true rfl) rfl rfl (Nat.le_of_ble_eq_true rfl) hc35 rfl ?_
        refine fr_aload_n (i := 0) (q := 0) rfl dX5_readClause_83 rfl ?_
        refine fr_getI dX5_readClause_84 rfl fl_X5_74 k_o ?_
        refine fr_bipush (v := 12) (by decide) dX5_readClause_87 rfl ?_
        refine fr_icmp_ne (tgt := 99) dX5_readClause_89 (by decide) rfl (fun hc => ?_) (fun hc => ?_)
        · have h := h.1 hc
          refine fr_aload_n (i := 0) (q := 0) rfl dX5_readClause_99 rfl ?_
          obtain ⟨I36, L37, hc38, h⟩ := h
          refine fr_callV2 (ν := mu_X5_readSum) (st2 := []) (As := []) (st := []) (v := none) (M1 := (Z, I36, L37)) dX5_readClause_100 rfl ml_X5_83 mo_X5_readSum mi_X5_readSum (ci := 5) rfl rfl k_o (Nat.le_of_ble_eq_true rfl) rfl rfl (Nat.le_of_ble_eq_true rfl) hc38 rfl ?_
          refine fr_aload_n (i := 0) (q := 0) rfl dX5_readClause_103 rfl ?_
          refine fr_bipush (v := 33) (by decide) dX5_readClause_104 rfl ?_
          obtain ⟨I39, L40, hc41, h⟩ := h
          refine fr_callV2 (ν := mu_X5_take) (st2 := []) (As := [.int 33]) (st := []) (v := none) (M1 := (Z, I39, L40)) dX5_readClause_106 rfl ml_X5_86 mo_X5_take mi_X5_take (ci := 5) rfl rfl k_o (Nat.le_of_ble_eq_true rfl) rfl rfl (Nat.le_of_ble_eq_true rfl) hc41 rfl ?_
          refine fr_aload_n (i := 0) (q := 0) rfl dX5_readClause_109 rfl ?_
          refine fr_bipush (v := 33) (by decide) dX5_readClause_110 rfl ?_
          obtain ⟨I42, L43, hc44, h⟩ := h
          refine fr_callV2 (ν := mu_X5_order) (st2 := []) (As := [.int 33]) (st := []) (v := none) (M1 := (Z, I42, L43)) dX5_readClause_112 rfl ml_X5_89 mo_X5_order mi_X5_order (ci := 5) rfl rfl k_o (Nat.le_of_ble_eq_true rfl) rfl rfl (Nat.le_of_ble_eq_true rfl) hc44 rfl ?_
          exact fr_vret rfl dX5_readClause_115 h.1 h.2
        · have h := h.2 hc
          refine fr_aload_n (i := 0) (q := 0) rfl dX5_readClause_92 rfl ?_
          obtain ⟨I45, L46, hc47, h⟩ := h
          refine fr_callV2 (ν := mu_X5_readEither) (st2 := []) (As := []) (st := []) (v := none) (M1 := (Z, I45, L46)) dX5_readClause_93 rfl ml_X5_80 mo_X5_readEither mi_X5_readEither (ci := 5) rfl rfl k_o (Nat.le_of_ble_eq_true rfl) rfl rfl (Nat.le_of_ble_eq_true rfl) hc47 rfl ?_
          refine fr_goto (n := 103) dX5_readClause_96 (by decide) ?_
          refine fr_aload_n (i := 0) (q := 0) rfl dX5_readClause_103 rfl ?_
          refine fr_bipush (v := 33) (by decide) dX5_readClause_104 rfl ?_
          obtain ⟨I48, L49, hc50, h⟩ := h
          refine fr_callV2 (ν := mu_X5_take) (st2 := []) (As := [.int 33]) (st := []) (v := none) (M1 := (Z, I48, L49)) dX5_readClause_106 rfl ml_X5_86 mo_X5_take mi_X5_take (ci := 5) rfl rfl k_o (Nat.le_of_ble_eq_true rfl) rfl rfl (Nat.le_of_ble_eq_true rfl) hc50 rfl ?_
          refine fr_aload_n (i := 0) (q := 0) rfl dX5_readClause_109 rfl ?_
          refine fr_bipush (v := 33) (by decide) dX5_readClause_110 rfl ?_
          obtain ⟨I51, L52, hc53, h⟩ := h
          refine fr_callV2 (ν := mu_X5_order) (st2 := []) (As := [.int 33]) (st := []) (v := none) (M1 := (Z, I51, L52)) dX5_readClause_112 rfl ml_X5_89 mo_X5_order mi_X5_order (ci := 5) rfl rfl k_o (Nat.le_of_ble_eq_true rfl) rfl rfl (Nat.le_of_ble_eq_true rfl) hc53 rfl ?_
          exact fr_vret rfl dX5_readClause_115 h.1 h.2
      · have h := h.2 hc
        refine fr_aload_n (i := 0) (q := 0) rfl dX5_readClause_57 rfl ?_
        refine fr_iconst (v := 4) (by decide) dX5_readClause_58 rfl ?_
        obtain ⟨I54, L55, hc56, h⟩ := h
        refine fr_callV2 (ν := mu_X5_fail) (st2 := []) (As := [.int 4]) (st := []) (v := none) (M1 := (Z, I54, L55)) dX5_readClause_59 rfl ml_X5_70 mo_X5_fail mi_X5_fail (ci := 5) rfl rfl k_o (Nat.le_of_ble_eq_true rfl) rfl rfl (Nat.le_of_ble_eq_true rfl) hc56 rfl ?_
        exact fr_vret rfl dX5_readClause_62 h.1 h.2
    · have h := h.2 hc
      refine fr_aload_n (i := 0) (q := 0) rfl dX5_readClause_18 rfl ?_
      refine fr_getI dX5_readClause_19 rfl fl_X5_52 k_o ?_
      refine fr_bipush (v := 13) (by decide) dX5_readClause_22 rfl ?_
      refine fr_icmp_eq (tgt := 33) dX5_readClause_24 (by decide) rfl (fun hc => ?_) (fun hc => ?_)
      · have h := h.1 hc
        refine fr_aload_n (i := 0) (q := 0) rfl dX5_readClause_33 rfl ?_
        refine fr_aload_n (i := 0) (q := 0) rfl dX5_readClause_34 rfl ?_
        refine fr_getI dX5_readClause_35 rfl fl_X5_52 k_o ?_
        refine fr_putI dX5_readClause_38 rfl fp_X5_74 k_o ?_
        refine fr_memI (fun I57 hI57 => ?_)
        have h := h I57 hI57
        refine fr_aload_n (i := 0) (q := 0) rfl dX5_readClause_41 rfl ?_
        refine fr_getR dX5_readClause_42 rfl fl_X5_22 k_o r_o_starts ?_
        refine fr_aload_n (i := 0) (q := 0) rfl dX5_readClause_45 rfl ?_
        refine fr_getI dX5_readClause_46 rfl fl_X5_74 k_o ?_
        refine fr_bipush (v := 11) (by decide) dX5_readClause_49 rfl ?_
        refine fr_isub dX5_readClause_51 rfl ?_
        obtain ⟨hz58, h⟩ := h
        refine fr_iald dX5_readClause_52 rfl k_o_starts hz58 ?_
        refine fr_iconst (v := (-1)) (by decide) dX5_readClause_53 rfl ?_
        refine fr_icmp_eq (tgt := 63) dX5_readClause_54 (by decide) rfl (fun hc => ?_) (fun hc => ?_)
        · have h := h.1 hc
          refine fr_aload_n (i := 0) (q := 0) rfl dX5_readClause_63 rfl ?_
          refine fr_getR dX5_readClause_64 rfl fl_X5_22 k_o r_o_starts ?_
          refine fr_aload_n (i := 0) (q := 0) rfl dX5_readClause_67 rfl ?_
          refine fr_getI dX5_readClause_68 rfl fl_X5_74 k_o ?_
          refine fr_bipush (v := 11) (by decide) dX5_readClause_71 rfl ?_
          refine fr_isub dX5_readClause_73 rfl ?_
          refine fr_aload_n (i := 0) (q := 0) rfl dX5_readClause_74 rfl ?_
          refine fr_getI dX5_readClause_75 rfl fl_X5_42 k_o ?_
          obtain ⟨hz59, h⟩ := h
          refine fr_iast dX5_readClause_78 rfl k_o_starts hz59 ?_
          refine fr_memI (fun I60 hI60 => ?_)
          have h := h I60 hI60
          refine fr_aload_n (i := 0) (q := 0) rfl dX5_readClause_79 rfl ?_
          obtain ⟨I61, L62, hc63, h⟩ := h
          refine fr_callV2 (ν := mu_X5_next) (st2 := []) (As := []) (st := []) (v := none) (M1 := (Z, I61, L62)) dX5_readClause_80 rfl ml_X5_77 mo_X5_next mi_X5_next (ci := 5) rfl rfl k_o (Nat.le_of_ble_eq_true rfl) rfl rfl (Nat.le_of_ble_eq_true rfl) hc63 rfl ?_
          refine fr_aload_n (i := 0) (q := 0) rfl dX5_readClause_83 rfl ?_
          refine fr_getI dX5_readClause_84 rfl fl_X5_74 k_o ?_
          refine fr_bipush (v := 12) (by decide) dX5_readClause_87 rfl ?_
          refine fr_icmp_ne (tgt := 99) dX5_readClause_89 (by decide) rfl (fun hc => ?_) (fun hc => ?_)
          · have h := h.1 hc
            refine fr_aload_n (i := 0) (q := 0) rfl dX5_readClause_99 rfl ?_
            obtain ⟨I64, L65, hc66, h⟩ := h
            refine fr_callV2 (ν := mu_X5_readSum) (st2 := []) (As := []) (st := []) (v := none) (M1 := (Z, I64, L65)) dX5_readClause_100 rfl ml_X5_83 mo_X5_readSum mi_X5_readSum (ci := 5) rfl rfl k_o (Nat.le_of_ble_eq_true rfl) rfl rfl (Nat.le_of_ble_eq_true rfl) hc66 rfl ?_
            refine fr_aload_n (i := 0) (q := 0) rfl dX5_readClause_103 rfl ?_
            refine fr_bipush (v := 33) (by decide) dX5_readClause_104 rfl ?_
            obtain ⟨I67, L68, hc69, h⟩ := h
            refine fr_callV2 (ν := mu_X5_take) (st2 := []) (As := [.int 33]) (st := []) (v := none) (M1 := (Z, I67, L68)) dX5_readClause_106 rfl ml_X5_86 mo_X5_take mi_X5_take (ci := 5) rfl rfl k_o (Nat.le_of_ble_eq_true rfl) rfl rfl (Nat.le_of_ble_eq_true rfl) hc69 rfl ?_
            refine fr_aload_n (i := 0) (q := 0) rfl dX5_readClause_109 rfl ?_
            refine fr_bipush (v := 33) (by decide) dX5_readClause_110 rfl ?_
            obtain ⟨I70, L71, hc72, h⟩ := h
            refine fr_callV2 (ν := mu_X5_order) (st2 := []) (As := [.int 33]) (st := []) (v := none) (M1 := (Z, I70, L71)) dX5_readClause_112 rfl ml_X5_89 mo_X5_order mi_X5_order (ci := 5) rfl rfl k_o (Nat.le_of_ble_eq_true rfl) rfl rfl (Nat.le_of_ble_eq_true rfl) hc72 rfl ?_
            exact fr_vret rfl dX5_readClause_115 h.1 h.2
          · have h := h.2 hc
            refine fr_aload_n (i := 0) (q := 0) rfl dX5_readClause_92 rfl ?_
            obtain ⟨I73, L74, hc75, h⟩ := h
            refine fr_callV2 (ν := mu_X5_readEither) (st2 := []) (As := []) (st := []) (v := none) (M1 := (Z, I73, L74)) dX5_readClause_93 rfl ml_X5_80 mo_X5_readEither mi_X5_readEither (ci := 5) rfl rfl k_o (Nat.le_of_ble_eq_true rfl) rfl rfl (Nat.le_of_ble_eq_true rfl) hc75 rfl ?_
            refine fr_goto (n := 103) dX5_readClause_96 (by decide) ?_
            refine fr_aload_n (i := 0) (q := 0) rfl dX5_readClause_103 rfl ?_
            refine fr_bipush (v := 33) (by decide) dX5_readClause_104 rfl ?_
            obtain ⟨I76, L77, hc78, h⟩ := h
            refine fr_callV2 (ν := mu_X5_take) (st2 := []) (As := [.int 33]) (st := []) (v := none) (M1 := (Z, I76, L77)) dX5_readClause_106 rfl ml_X5_86 mo_X5_take mi_X5_take (ci := 5) rfl rfl k_o (Nat.le_of_ble_eq_true rfl) rfl rfl (Nat.le_of_ble_eq_true rfl) hc78 rfl ?_
            refine fr_aload_n (i := 0) (q := 0) rfl dX5_readClause_109 rfl ?_
            refine fr_bipush (v := 33) (by decide) dX5_readClause_110 rfl ?_
            obtain ⟨I79, L80, hc81, h⟩ := h
            refine fr_callV2 (ν := mu_X5_order) (st2 := []) (As := [.int 33]) (st := []) (v := none) (M1 := (Z, I79, L80)) dX5_readClause_112 rfl ml_X5_89 mo_X5_order mi_X5_order (ci := 5) rfl rfl k_o (Nat.le_of_ble_eq_true rfl) rfl rfl (Nat.le_of_ble_eq_true rfl) hc81 rfl ?_
            exact fr_vret rfl dX5_readClause_115 h.1 h.2
        · have h := h.2 hc
          refine fr_aload_n (i := 0) (q := 0) rfl dX5_readClause_57 rfl ?_
          refine fr_iconst (v := 4) (by decide) dX5_readClause_58 rfl ?_
          obtain ⟨I82, L83, hc84, h⟩ := h
          refine fr_callV2 (ν := mu_X5_fail) (st2 := []) (As := [.int 4]) (st := []) (v := none) (M1 := (Z, I82, L83)) dX5_readClause_59 rfl ml_X5_70 mo_X5_fail mi_X5_fail (ci := 5) rfl rfl k_o (Nat.le_of_ble_eq_true rfl) rfl rfl (Nat.le_of_ble_eq_true rfl) hc84 rfl ?_
          exact fr_vret rfl dX5_readClause_62 h.1 h.2
      · have h := h.2 hc
        refine fr_aload_n (i := 0) (q := 0) rfl dX5_readClause_27 rfl ?_
        refine fr_iconst (v := 1) (by decide) dX5_readClause_28 rfl ?_
        obtain ⟨I85, L86, hc87, h⟩ := h
        refine fr_callV2 (ν := mu_X5_fail) (st2 := []) (As := [.int 1]) (st := []) (v := none) (M1 := (Z, I85, L86)) dX5_readClause_29 rfl ml_X5_70 mo_X5_fail mi_X5_fail (ci := 5) rfl rfl k_o (Nat.le_of_ble_eq_true rfl) rfl rfl (Nat.le_of_ble_eq_true rfl) hc87 rfl ?_
        exact fr_vret rfl dX5_readClause_32 h.1 h.2
abbrev Lp_X5_readEither_6 (g : GE) (d : Nat) (o : Nat) (u1 : Int32) (M : Mem) (r : Option Value) (M' : Mem) : Prop := Fr g d mu_X5_readEither 6 [(0, rf g o), (1, .int u1)] [] M r M'
theorem cp_X5_readEither {d dc : Nat} (hd : dc + 1 ≤ d) (hH : 4 ≤ d) {g : GE} {Z : Zs} {I : Nat → Nat → Int32} {L : Nat → Nat → Int64} {r : Option Value} {M' : Mem} {o : Nat} (k_o : KM Z o 5) (h : (∃ (I1 : Nat → Nat → Int32) (L2 : Nat → Nat → Int64), Cl g dc mu_X5_readBoth [rf g o] (Z, I, L) none (Z, I1, L2) ∧ Lp_X5_readEither_6 g d o 0 (Z, I1, L2) r M')) : Cl g d mu_X5_readEither [rf g o] (Z, I, L) r M' := by
  refine cl_of (lv := [(0, rf g o)]) (by decide) (Nat.le_of_ble_eq_true rfl) rfl ?_
  refine fr_aload_n (i := 0) (q := 0) rfl dX5_readEither_0 rfl ?_
  obtain ⟨I1, L2, hc3, h⟩ := h
  refine fr_callV2 (ν := mu_X5_readBoth) (st2 := []) (As := []) (st := []) (v := none) (M1 := (Z, I1, L2)) dX5_readEither_1 rfl ml_X5_92 mo_X5_readBoth mi_X5_readBoth (ci := 5) rfl rfl k_o hd rfl rfl (Nat.le_of_ble_eq_true rfl) hc3 rfl ?_
  refine fr_iconst (v := 0) (by decide) dX5_readEither_4 rfl ?_
  refine fr_istore_n (i := 1) (lv' := [(1, .int 0), (0, rf g o)]) dX5_readEither_5 rfl (by decide) rfl ?_
  exact fr_sub [1, 0] rfl h
theorem wp_X5_readEither_6 {d dc : Nat} (hd : dc + 1 ≤ d) (hH : 4 ≤ d) {g : GE} {Z : Zs} {I : Nat → Nat → Int32} {L : Nat → Nat → Int64} {r : Option Value} {M' : Mem} {o : Nat} {u1 : Int32} (k_o : KM Z o 5) (h : ((300 ≤ u1 → (r = none ∧ M' = (Z, I, L))) ∧ (¬ 300 ≤ u1 → ((¬ (I o 5) = 16 → (r = none ∧ M' = (Z, I, L))) ∧ ((I o 5) = 16 → (∃ (I1 : Nat → Nat → Int32) (L2 : Nat → Nat → Int64), Cl g 3 mu_X5_next [rf g o] (Z, I, L) none (Z, I1, L2) ∧ (∃ (I4 : Nat → Nat → Int32) (L5 : Nat → Nat → Int64), Cl g dc mu_X5_readBoth [rf g o] (Z, I1, L2) none (Z, I4, L5) ∧ (∃ (I7 : Nat → Nat → Int32) (L8 : Nat → Nat → Int64), Cl g 1 mu_X5_order [rf g o, .int 16] (Z, I4, L5) none (Z, I7, L8) ∧ (∀ y10 : Int32, y10 = (u1 + 1) → Lp_X5_readEither_6 g d o y10 (Z, I7, L8) r M'))))))))) : Lp_X5_readEither_6 g d o u1 (Z, I, L) r M' := by
  refine fr_iload_n (i := 1) (q := 1) rfl dX5_readEither_6 rfl ?_
  refine fr_sipush (v := 300) (by decide) dX5_readEither_7 rfl ?_
  refine fr_icmp_ge (tgt := 42) dX5_readEither_10 (by decide) rfl (fun hc => ?_) (fun hc => ?_)
  · have h := h.1 hc
    exact fr_vret rfl dX5_readEither_42 h.1 h.2
  · have h := h.2 hc
    refine fr_aload_n (i := 0) (q := 0) rfl dX5_readEither_13 rfl ?_
    refine fr_getI dX5_readEither_14 rfl fl_X5_52 k_o ?_
    refine fr_bipush (v := 16) (by decide) dX5_readEither_17 rfl ?_
    refine fr_icmp_ne (tgt := 42) dX5_readEither_19 (by decide) rfl (fun hc => ?_) (fun hc => ?_)
    · have h := h.1 hc
      exact fr_vret rfl dX5_readEither_42 h.1 h.2
    · have h := h.2 hc
      refine fr_aload_n (i := 0) (q := 0) rfl dX5_readEither_22 rfl ?_
      obtain ⟨I1, L2, hc3, h⟩ := h
      refine fr_callV2 (ν := mu_X5_next) (st2 := []) (As := []) (st := []) (v := none) (M1 := (Z, I1, L2)) dX5_readEither_23 rfl ml_X5_77 mo_X5_next mi_X5_next (ci := 5) rfl rfl k_o (Nat.le_trans (Nat.le_of_ble_eq_true rfl) hH) rfl rfl (Nat.le_of_ble_eq_true rfl) hc3 rfl ?_
      refine fr_aload_n (i := 0) (q := 0) rfl dX5_readEither_26 rfl ?_
      obtain ⟨I4, L5, hc6, h⟩ := h
      refine fr_callV2 (ν := mu_X5_readBoth) (st2 := []) (As := []) (st := []) (v := none) (M1 := (Z, I4, L5)) dX5_readEither_27 rfl ml_X5_92 mo_X5_readBoth mi_X5_readBoth (ci := 5) rfl rfl k_o hd rfl rfl (Nat.le_of_ble_eq_true rfl) hc6 rfl ?_
      refine fr_aload_n (i := 0) (q := 0) rfl dX5_readEither_30 rfl ?_
      refine fr_bipush (v := 16) (by decide) dX5_readEither_31 rfl ?_
      obtain ⟨I7, L8, hc9, h⟩ := h
      refine fr_callV2 (ν := mu_X5_order) (st2 := []) (As := [.int 16]) (st := []) (v := none) (M1 := (Z, I7, L8)) dX5_readEither_33 rfl ml_X5_89 mo_X5_order mi_X5_order (ci := 5) rfl rfl k_o (Nat.le_trans (Nat.le_of_ble_eq_true rfl) hH) rfl rfl (Nat.le_of_ble_eq_true rfl) hc9 rfl ?_
      obtain ⟨y10, hy10⟩ : ∃ y : Int32, y = u1 + 1 := ⟨_, rfl⟩
      have h := h y10 hy10
      refine fr_iinc (q := 1) (v := y10) (lv' := [(1, .int y10), (0, rf g o)]) rfl (by rw [hy10]; rfl) dX5_readEither_36 rfl (by decide) rfl ?_
      refine fr_goto (n := 6) dX5_readEither_39 (by decide) ?_
      exact fr_sub [1, 0] rfl h
abbrev Lp_X5_readBoth_6 (g : GE) (d : Nat) (o : Nat) (u1 : Int32) (M : Mem) (r : Option Value) (M' : Mem) : Prop := Fr g d mu_X5_readBoth 6 [(0, rf g o), (1, .int u1)] [] M r M'
theorem cp_X5_readBoth {d dc : Nat} (hd : dc + 1 ≤ d) (hH : 4 ≤ d) {g : GE} {Z : Zs} {I : Nat → Nat → Int32} {L : Nat → Nat → Int64} {r : Option Value} {M' : Mem} {o : Nat} (k_o : KM Z o 5) (h : (∃ (I1 : Nat → Nat → Int32) (L2 : Nat → Nat → Int64), Cl g dc mu_X5_readAsk [rf g o] (Z, I, L) none (Z, I1, L2) ∧ Lp_X5_readBoth_6 g d o 0 (Z, I1, L2) r M')) : Cl g d mu_X5_readBoth [rf g o] (Z, I, L) r M' := by
  refine cl_of (lv := [(0, rf g o)]) (by decide) (Nat.le_of_ble_eq_true rfl) rfl ?_
  refine fr_aload_n (i := 0) (q := 0) rfl dX5_readBoth_0 rfl ?_
  obtain ⟨I1, L2, hc3, h⟩ := h
  refine fr_callV2 (ν := mu_X5_readAsk) (st2 := []) (As := []) (st := []) (v := none) (M1 := (Z, I1, L2)) dX5_readBoth_1 rfl ml_X5_95 mo_X5_readAsk mi_X5_readAsk (ci := 5) rfl rfl k_o hd rfl rfl (Nat.le_of_ble_eq_true rfl) hc3 rfl ?_
  refine fr_iconst (v := 0) (by decide) dX5_readBoth_4 rfl ?_
  refine fr_istore_n (i := 1) (lv' := [(1, .int 0), (0, rf g o)]) dX5_readBoth_5 rfl (by decide) rfl ?_
  exact fr_sub [1, 0] rfl h
theorem wp_X5_readBoth_6 {d dc : Nat} (hd : dc + 1 ≤ d) (hH : 4 ≤ d) {g : GE} {Z : Zs} {I : Nat → Nat → Int32} {L : Nat → Nat → Int64} {r : Option Value} {M' : Mem} {o : Nat} {u1 : Int32} (k_o : KM Z o 5) (h : ((300 ≤ u1 → (r = none ∧ M' = (Z, I, L))) ∧ (¬ 300 ≤ u1 → ((¬ (I o 5) = 17 → (r = none ∧ M' = (Z, I, L))) ∧ ((I o 5) = 17 → (∃ (I1 : Nat → Nat → Int32) (L2 : Nat → Nat → Int64), Cl g 3 mu_X5_next [rf g o] (Z, I, L) none (Z, I1, L2) ∧ (∃ (I4 : Nat → Nat → Int32) (L5 : Nat → Nat → Int64), Cl g dc mu_X5_readAsk [rf g o] (Z, I1, L2) none (Z, I4, L5) ∧ (∃ (I7 : Nat → Nat → Int32) (L8 : Nat → Nat → Int64), Cl g 1 mu_X5_order [rf g o, .int 17] (Z, I4, L5) none (Z, I7, L8) ∧ (∀ y10 : Int32, y10 = (u1 + 1) → Lp_X5_readBoth_6 g d o y10 (Z, I7, L8) r M'))))))))) : Lp_X5_readBoth_6 g d o u1 (Z, I, L) r M' := by
  refine fr_iload_n (i := 1) (q := 1) rfl dX5_readBoth_6 rfl ?_
  refine fr_sipush (v := 300) (by decide) dX5_readBoth_7 rfl ?_
  refine fr_icmp_ge (tgt := 42) dX5_readBoth_10 (by decide) rfl (fun hc => ?_) (fun hc => ?_)
  · have h := h.1 hc
    exact fr_vret rfl dX5_readBoth_42 h.1 h.2
  · have h := h.2 hc
    refine fr_aload_n (i := 0) (q := 0) rfl dX5_readBoth_13 rfl ?_
    refine fr_getI dX5_readBoth_14 rfl fl_X5_52 k_o ?_
    refine fr_bipush (v := 17) (by decide) dX5_readBoth_17 rfl ?_
    refine fr_icmp_ne (tgt := 42) dX5_readBoth_19 (by decide) rfl (fun hc => ?_) (fun hc => ?_)
    · have h := h.1 hc
      exact fr_vret rfl dX5_readBoth_42 h.1 h.2
    · have h := h.2 hc
      refine fr_aload_n (i := 0) (q := 0) rfl dX5_readBoth_22 rfl ?_
      obtain ⟨I1, L2, hc3, h⟩ := h
      refine fr_callV2 (ν := mu_X5_next) (st2 := []) (As := []) (st := []) (v := none) (M1 := (Z, I1, L2)) dX5_readBoth_23 rfl ml_X5_77 mo_X5_next mi_X5_next (ci := 5) rfl rfl k_o (Nat.le_trans (Nat.le_of_ble_eq_true rfl) hH) rfl rfl (Nat.le_of_ble_eq_true rfl) hc3 rfl ?_
      refine fr_aload_n (i := 0) (q := 0) rfl dX5_readBoth_26 rfl ?_
      obtain ⟨I4, L5, hc6, h⟩ := h
      refine fr_callV2 (ν := mu_X5_readAsk) (st2 := []) (As := []) (st := []) (v := none) (M1 := (Z, I4, L5)) dX5_readBoth_27 rfl ml_X5_95 mo_X5_readAsk mi_X5_readAsk (ci := 5) rfl rfl k_o hd rfl rfl (Nat.le_of_ble_eq_true rfl) hc6 rfl ?_
      refine fr_aload_n (i := 0) (q := 0) rfl dX5_readBoth_30 rfl ?_
      refine fr_bipush (v := 17) (by decide) dX5_readBoth_31 rfl ?_
      obtain ⟨I7, L8, hc9, h⟩ := h
      refine fr_callV2 (ν := mu_X5_order) (st2 := []) (As := [.int 17]) (st := []) (v := none) (M1 := (Z, I7, L8)) dX5_readBoth_33 rfl ml_X5_89 mo_X5_order mi_X5_order (ci := 5) rfl rfl k_o (Nat.le_trans (Nat.le_of_ble_eq_true rfl) hH) rfl rfl (Nat.le_of_ble_eq_true rfl) hc9 rfl ?_
      obtain ⟨y10, hy10⟩ : ∃ y : Int32, y = u1 + 1 := ⟨_, rfl⟩
      have h := h y10 hy10
      refine fr_iinc (q := 1) (v := y10) (lv' := [(1, .int y10), (0, rf g o)]) rfl (by rw [hy10]; rfl) dX5_readBoth_36 rfl (by decide) rfl ?_
      refine fr_goto (n := 6) dX5_readBoth_39 (by decide) ?_
      exact fr_sub [1, 0] rfl h
theorem cp_X5_readAsk {d dc : Nat} (hd : dc + 1 ≤ d) (hH : 5 ≤ d) {g : GE} {Z : Zs} {I : Nat → Nat → Int32} {L : Nat → Nat → Int64} {r : Option Value} {M' : Mem} {o : Nat} (k_o : KM Z o 5) (h : ((¬ (I o 5) = 18 → (∃ (I1 : Nat → Nat → Int32) (L2 : Nat → Nat → Int64), Cl g dc mu_X5_readSum [rf g o] (Z, I, L) none (Z, I1, L2) ∧ (∀ y4 : Int32, y4 = (I1 o 5) → ((y4 < 21 → (∃ (I5 : Nat → Nat → Int32) (L6 : Nat → Nat → Int64), Cl g 3 mu_X5_fail [rf g o, .int 1] (Z, I1, L2) none (Z, I5, L6) ∧ (r = none ∧ M' = (Z, I5, L6)))) ∧ (¬ y4 < 21 → ((y4 ≤ 26 → (∃ (I8 : Nat → Nat → Int32) (L9 : Nat → Nat → Int64), Cl g 3 mu_X5_next [rf g o] (Z, I1, L2) none (Z, I8, L9) ∧ (∃ (I11 : Nat → Nat → Int32) (L12 : Nat → Nat → Int64), Cl g dc mu_X5_readSum [rf g o] (Z, I8, L9) none (Z, I11, L12) ∧ (∃ (I14 : Nat → Nat → Int32) (L15 : Nat → Nat → Int64), Cl g 1 mu_X5_order [rf g o, .int y4] (Z, I11, L12) none (Z, I14, L15) ∧ (r = none ∧ M' = (Z, I14, L15)))))) ∧ (¬ y4 ≤ 26 → (∃ (I17 : Nat → Nat → Int32) (L18 : Nat → Nat → Int64), Cl g 3 mu_X5_fail [rf g o, .int 1] (Z, I1, L2) none (Z, I17, L18) ∧ (r = none ∧ M' = (Z, I17, L18)))))))))) ∧ ((I o 5) = 18 → (∃ (v20 : Int32) (I21 : Nat → Nat → Int32) (L22 : Nat → Nat → Int64), Cl g 4 mu_X5_opens [rf g o] (Z, I, L) (some (.int v20)) (Z, I21, L22) ∧ ((v20 = 0 → (r = none ∧ M' = (Z, I21, L22))) ∧ (¬ v20 = 0 → (∃ (I24 : Nat → Nat → Int32) (L25 : Nat → Nat → Int64), Cl g 3 mu_X5_next [rf g o] (Z, I21, L22) none (Z, I24, L25) ∧ (∃ (I27 : Nat → Nat → Int32) (L28 : Nat → Nat → Int64), Cl g dc mu_X5_readAsk [rf g o] (Z, I24, L25) none (Z, I27, L28) ∧ (∃ (I30 : Nat → Nat → Int32) (L31 : Nat → Nat → Int64), Cl g 1 mu_X5_order [rf g o, .int 18] (Z, I27, L28) none (Z, I30, L31) ∧ (∀ I33 : Nat → Nat → Int32, I33 = rw1 I30 o (upd (I30 o) 7 ((I30 o 7) - 1)) → (r = none ∧ M' = (Z, I33, L31)))))))))))) : Cl g d mu_X5_readAsk [rf g o] (Z, I, L) r M' := by
  refine cl_of (lv := [(0, rf g o)]) (by decide) (Nat.le_of_ble_eq_true rfl) rfl ?_
  refine fr_aload_n (i := 0) (q := 0) rfl dX5_readAsk_0 rfl ?_
  refine fr_getI dX5_readAsk_1 rfl fl_X5_52 k_o ?_
  refine fr_bipush (v := 18) (by decide) dX5_readAsk_4 rfl ?_
  refine fr_icmp_ne (tgt := 41) dX5_readAsk_6 (by decide) rfl (fun hc => ?_) (fun hc => ?_)
  · have h := h.1 hc
    refine fr_aload_n (i := 0) (q := 0) rfl dX5_readAsk_41 rfl ?_
    obtain ⟨I1, L2, hc3, h⟩ := h
    refine fr_callV2 (ν := mu_X5_readSum) (st2 := []) (As := []) (st := []) (v := none) (M1 := (Z, I1, L2)) dX5_readAsk_42 rfl ml_X5_83 mo_X5_readSum mi_X5_readSum (ci := 5) rfl rfl k_o hd rfl rfl (Nat.le_of_ble_eq_true rfl) hc3 rfl ?_
    refine fr_aload_n (i := 0) (q := 0) rfl dX5_readAsk_45 rfl ?_
    refine fr_getI dX5_readAsk_46 rfl fl_X5_52 k_o ?_
    refine fr_topi (fun y4 hy4 => ?_)
    have h := h y4 hy4
    refine fr_istore_n (i := 1) (lv' := [(1, .int y4), (0, rf g o)]) dX5_readAsk_49 rfl (by decide) rfl ?_
    refine fr_iload_n (i := 1) (q := 0) rfl dX5_readAsk_50 rfl ?_
    refine fr_bipush (v := 21) (by decide) dX5_readAsk_51 rfl ?_
    refine fr_icmp_lt (tgt := 62) dX5_readAsk_53 (by decide) rfl (fun hc => ?_) (fun hc => ?_)
    · have h := h.1 hc
      refine fr_aload_n (i := 0) (q := 1) rfl dX5_readAsk_62 rfl ?_
      refine fr_iconst (v := 1) (by decide) dX5_readAsk_63 rfl ?_
      obtain ⟨I5, L6, hc7, h⟩ := h
      refine fr_callV2 (ν := mu_X5_fail) (st2 := []) (As := [.int 1]) (st := []) (v := none) (M1 := (Z, I5, L6)) dX5_readAsk_64 rfl ml_X5_70 mo_X5_fail mi_X5_fail (ci := 5) rfl rfl k_o (Nat.le_trans (Nat.le_of_ble_eq_true rfl) hH) rfl rfl (Nat.le_of_ble_eq_true rfl) hc7 rfl ?_
      exact fr_vret rfl dX5_readAsk_67 h.1 h.2
    · have h := h.2 hc
      refine fr_iload_n (i := 1) (q := 0) rfl dX5_readAsk_56 rfl ?_
      refine fr_bipush (v := 26) (by decide) dX5_readAsk_57 rfl ?_
      refine fr_icmp_le (tgt := 68) dX5_readAsk_59 (by decide) rfl (fun hc => ?_) (fun hc => ?_)
      · have h := h.1 hc
        refine fr_aload_n (i := 0) (q := 1) rfl dX5_readAsk_68 rfl ?_
        obtain ⟨I8, L9, hc10, h⟩ := h
        refine fr_callV2 (ν := mu_X5_next) (st2 := []) (As := []) (st := []) (v := none) (M1 := (Z, I8, L9)) dX5_readAsk_69 rfl ml_X5_77 mo_X5_next mi_X5_next (ci := 5) rfl rfl k_o (Nat.le_trans (Nat.le_of_ble_eq_true rfl) hH) rfl rfl (Nat.le_of_ble_eq_true rfl) hc10 rfl ?_
        refine fr_aload_n (i := 0) (q := 1) rfl dX5_readAsk_72 rfl ?_
        obtain ⟨I11, L12, hc13, h⟩ := h
        refine fr_callV2 (ν := mu_X5_readSum) (st2 := []) (As := []) (st := []) (v := none) (M1 := (Z, I11, L12)) dX5_readAsk_73 rfl ml_X5_83 mo_X5_readSum mi_X5_readSum (ci := 5) rfl rfl k_o hd rfl rfl (Nat.le_of_ble_eq_true rfl) hc13 rfl ?_
        refine fr_aload_n (i := 0) (q := 1) rfl dX5_readAsk_76 rfl ?_
        refine fr_iload_n (i := 1) (q := 0) rfl dX5_readAsk_77 rfl ?_
        obtain ⟨I14, L15, hc16, h⟩ := h
        refine fr_callV2 (ν := mu_X5_order) (st2 := []) (As := [.int y4]) (st := []) (v := none) (M1 := (Z, I14, L15)) dX5_readAsk_78 rfl ml_X5_89 mo_X5_order mi_X5_order (ci := 5) rfl rfl k_o (Nat.le_trans (Nat.le_of_ble_eq_true rfl) hH) rfl rfl (Nat.le_of_ble_eq_true rfl) hc16 rfl ?_
        exact fr_vret rfl dX5_readAsk_81 h.1 h.2
      · have h := h.2 hc
        refine fr_aload_n (i := 0) (q := 1) rfl dX5_readAsk_62 rfl ?_
        refine fr_iconst (v := 1) (by decide) dX5_readAsk_63 rfl ?_
        obtain ⟨I17, L18, hc19, h⟩ := h
        refine fr_callV2 (ν := mu_X5_fail) (st2 := []) (As := [.int 1]) (st := []) (v := none) (M1 := (Z, I17, L18)) dX5_readAsk_64 rfl ml_X5_70 mo_X5_fail mi_X5_fail (ci := 5) rfl rfl k_o (Nat.le_trans (Nat.le_of_ble_eq_true rfl) hH) rfl rfl (Nat.le_of_ble_eq_true rfl) hc19 rfl ?_
        exact fr_vret rfl dX5_readAsk_67 h.1 h.2
  · have h := h.2 hc
    refine fr_aload_n (i := 0) (q := 0) rfl dX5_readAsk_9 rfl ?_
    obtain ⟨v20, I21, L22, hc23, h⟩ := h
    refine fr_callV2 (ν := mu_X5_opens) (st2 := [.int v20]) (As := []) (st := []) (v := (some (.int v20))) (M1 := (Z, I21, L22)) dX5_readAsk_10 rfl ml_X5_98 mo_X5_opens mi_X5_opens (ci := 5) rfl rfl k_o (Nat.le_trans (Nat.le_of_ble_eq_true rfl) hH) rfl rfl (Nat.le_of_ble_eq_true rfl) hc23 rfl ?_
    refine fr_if_eq (tgt := 40) dX5_readAsk_13 (by decide) rfl (fun hc => ?_) (fun hc => ?_)
    · have h := h.1 hc
      exact fr_vret rfl dX5_readAsk_40 h.1 h.2
    · have h := h.2 hc
      refine fr_aload_n (i := 0) (q := 0) rfl dX5_readAsk_16 rfl ?_
      obtain ⟨I24, L25, hc26, h⟩ := h
      refine fr_callV2 (ν := mu_X5_next) (st2 := []) (As := []) (st := []) (v := none) (M1 := (Z, I24, L25)) dX5_readAsk_17 rfl ml_X5_77 mo_X5_next mi_X5_next (ci := 5) rfl rfl k_o (Nat.le_trans (Nat.le_of_ble_eq_true rfl) hH) rfl rfl (Nat.le_of_ble_eq_true rfl) hc26 rfl ?_
      refine fr_aload_n (i := 0) (q := 0) rfl dX5_readAsk_20 rfl ?_
      obtain ⟨I27, L28, hc29, h⟩ := h
      refine fr_callV2 (ν := mu_X5_readAsk) (st2 := []) (As := []) (st := []) (v := none) (M1 := (Z, I27, L28)) dX5_readAsk_21 rfl ml_X5_95 mo_X5_readAsk mi_X5_readAsk (ci := 5) rfl rfl k_o hd rfl rfl (Nat.le_of_ble_eq_true rfl) hc29 rfl ?_
      refine fr_aload_n (i := 0) (q := 0) rfl dX5_readAsk_24 rfl ?_
      refine fr_bipush (v := 18) (by decide) dX5_readAsk_25 rfl ?_
      obtain ⟨I30, L31, hc32, h⟩ := h
      refine fr_callV2 (ν := mu_X5_order) (st2 := []) (As := [.int 18]) (st := []) (v := none) (M1 := (Z, I30, L31)) dX5_readAsk_27 rfl ml_X5_89 mo_X5_order mi_X5_order (ci := 5) rfl rfl k_o (Nat.le_trans (Nat.le_of_ble_eq_true rfl) hH) rfl rfl (Nat.le_of_ble_eq_true rfl) hc32 rfl ?_
      refine fr_aload_n (i := 0) (q := 0) rfl dX5_readAsk_30 rfl ?_
      refine fr_dup rfl dX5_readAsk_31 rfl ?_
      refine fr_getI dX5_readAsk_32 rfl fl_X5_55 k_o ?_
      refine fr_iconst (v := 1) (by decide) dX5_readAsk_35 rfl ?_
      refine fr_isub dX5_readAsk_36 rfl ?_
      refine fr_putI dX5_readAsk_37 rfl fp_X5_55 k_o ?_
      refine fr_memI (fun I33 hI33 => ?_)
      have h := h I33 hI33
      exact fr_vret rfl dX5_readAsk_40 h.1 h.2
abbrev Lp_X5_readSum_6 (g : GE) (d : Nat) (o : Nat) (u1 : Int32) (M : Mem) (r : Option Value) (M' : Mem) : Prop := Fr g d mu_X5_readSum 6 [(0, rf g o), (1, .int u1)] [] M r M'
theorem cp_X5_readSum {d dc : Nat} (hd : dc + 1 ≤ d) (hH : 4 ≤ d) {g : GE} {Z : Zs} {I : Nat → Nat → Int32} {L : Nat → Nat → Int64} {r : Option Value} {M' : Mem} {o : Nat} (k_o : KM Z o 5) (h : (∃ (I1 : Nat → Nat → Int32) (L2 : Nat → Nat → Int64), Cl g dc mu_X5_readProduct [rf g o] (Z, I, L) none (Z, I1, L2) ∧ Lp_X5_readSum_6 g d o 0 (Z, I1, L2) r M')) : Cl g d mu_X5_readSum [rf g o] (Z, I, L) r M' := by
  refine cl_of (lv := [(0, rf g o)]) (by decide) (Nat.le_of_ble_eq_true rfl) rfl ?_
  refine fr_aload_n (i := 0) (q := 0) rfl dX5_readSum_0 rfl ?_
  obtain ⟨I1, L2, hc3, h⟩ := h
  refine fr_callV2 (ν := mu_X5_readProduct) (st2 := []) (As := []) (st := []) (v := none) (M1 := (Z, I1, L2)) dX5_readSum_1 rfl ml_X5_102 mo_X5_readProduct mi_X5_readProduct (ci := 5) rfl rfl k_o hd rfl rfl (Nat.le_of_ble_eq_true rfl) hc3 rfl ?_
  refine fr_iconst (v := 0) (by decide) dX5_readSum_4 rfl ?_
  refine fr_istore_n (i := 1) (lv' := [(1, .int 0), (0, rf g o)]) dX5_readSum_5 rfl (by decide) rfl ?_
  exact fr_sub [1, 0] rfl h
theorem wp_X5_readSum_6 {d dc : Nat} (hd : dc + 1 ≤ d) (hH : 4 ≤ d) {g : GE} {Z : Zs} {I : Nat → Nat → Int32} {L : Nat → Nat → Int64} {r : Option Value} {M' : Mem} {o : Nat} {u1 : Int32} (k_o : KM Z o 5) (h : ((300 ≤ u1 → (r = none ∧ M' = (Z, I, L))) ∧ (¬ 300 ≤ u1 → (((I o 5) = 27 → (∀ y1 : Int32, y1 = (I o 5) → (∃ (I2 : Nat → Nat → Int32) (L3 : Nat → Nat → Int64), Cl g 3 mu_X5_next [rf g o] (Z, I, L) none (Z, I2, L3) ∧ (∃ (I5 : Nat → Nat → Int32) (L6 : Nat → Nat → Int64), Cl g dc mu_X5_readProduct [rf g o] (Z, I2, L3) none (Z, I5, L6) ∧ (∃ (I8 : Nat → Nat → Int32) (L9 : Nat → Nat → Int64), Cl g 1 mu_X5_order [rf g o, .int y1] (Z, I5, L6) none (Z, I8, L9) ∧ (∀ y11 : Int32, y11 = (u1 + 1) → Lp_X5_readSum_6 g d o y11 (Z, I8, L9) r M')))))) ∧ (¬ (I o 5) = 27 → ((¬ (I o 5) = 28 → (r = none ∧ M' = (Z, I, L))) ∧ ((I o 5) = 28 → (∀ y12 : Int32, y12 = (I o 5) → (∃ (I13 : Nat → Nat → Int32) (L14 : Nat → Nat → Int64), Cl g 3 mu_X5_next [rf g o] (Z, I, L) none (Z, I13, L14) ∧ (∃ (I16 : Nat → Nat → Int32) (L17 : Nat → Nat → Int64), Cl g dc mu_X5_readProduct [rf g o] (Z, I13, L14) none (Z, I16, L17) ∧ (∃ (I19 : Nat → Nat → Int32) (L20 : Nat → Nat → Int64), Cl g 1 mu_X5_order [rf g o, .int y12] (Z, I16, L17) none (Z, I19, L20) ∧ (∀ y22 : Int32, y22 = (u1 + 1) → Lp_X5_readSum_6 g d o y22 (Z, I19, L20) r M')))))))))))) : Lp_X5_readSum_6 g d o u1 (Z, I, L) r M' := by
  refine fr_iload_n (i := 1) (q := 1) rfl dX5_readSum_6 rfl ?_
  refine fr_sipush (v := 300) (by decide) dX5_readSum_7 rfl ?_
  refine fr_icmp_ge (tgt := 55) dX5_readSum_10 (by decide) rfl (fun hc => ?_) (fun hc => ?_)
  · have h := h.1 hc
    exact fr_vret rfl dX5_readSum_55 h.1 h.2
  · have h := h.2 hc
    refine fr_aload_n (i := 0) (q := 0) rfl dX5_readSum_13 rfl ?_
    refine fr_getI dX5_readSum_14 rfl fl_X5_52 k_o ?_
    refine fr_bipush (v := 27) (by decide) dX5_readSum_17 rfl ?_
    refine fr_icmp_eq (tgt := 31) dX5_readSum_19 (by decide) rfl (fun hc => ?_) (fun hc => ?_)
    · have h := h.1 hc
      refine fr_aload_n (i := 0) (q := 0) rfl dX5_readSum_31 rfl ?_
      refine fr_getI dX5_readSum_32 rfl fl_X5_52 k_o ?_
      refine fr_topi (fun y1 hy1 => ?_)
      have h := h y1 hy1
      refine fr_istore_n (i := 2) (lv' := [(2, .int y1), (0, rf g o), (1, .int u1)]) dX5_readSum_35 rfl (by decide) rfl ?_
      refine fr_aload_n (i := 0) (q := 1) rfl dX5_readSum_36 rfl ?_
      obtain ⟨I2, L3, hc4, h⟩ := h
      refine fr_callV2 (ν := mu_X5_next) (st2 := []) (As := []) (st := []) (v := none) (M1 := (Z, I2, L3)) dX5_readSum_37 rfl ml_X5_77 mo_X5_next mi_X5_next (ci := 5) rfl rfl k_o (Nat.le_trans (Nat.le_of_ble_eq_true rfl) hH) rfl rfl (Nat.le_of_ble_eq_true rfl) hc4 rfl ?_
      refine fr_aload_n (i := 0) (q := 1) rfl dX5_readSum_40 rfl ?_
      obtain ⟨I5, L6, hc7, h⟩ := h
      refine fr_callV2 (ν := mu_X5_readProduct) (st2 := []) (As := []) (st := []) (v := none) (M1 := (Z, I5, L6)) dX5_readSum_41 rfl ml_X5_102 mo_X5_readProduct mi_X5_readProduct (ci := 5) rfl rfl k_o hd rfl rfl (Nat.le_of_ble_eq_true rfl) hc7 rfl ?_
      refine fr_aload_n (i := 0) (q := 1) rfl dX5_readSum_44 rfl ?_
      refine fr_iload_n (i := 2) (q := 0) rfl dX5_readSum_45 rfl ?_
      obtain ⟨I8, L9, hc10, h⟩ := h
      refine fr_callV2 (ν := mu_X5_order) (st2 := []) (As := [.int y1]) (st := []) (v := none) (M1 := (Z, I8, L9)) dX5_readSum_46 rfl ml_X5_89 mo_X5_order mi_X5_order (ci := 5) rfl rfl k_o (Nat.le_trans (Nat.le_of_ble_eq_true rfl) hH) rfl rfl (Nat.le_of_ble_eq_true rfl) hc10 rfl ?_
      obtain ⟨y11, hy11⟩ : ∃ y : Int32, y = u1 + 1 := ⟨_, rfl⟩
      have h := h y11 hy11
      refine fr_iinc (q := 2) (v := y11) (lv' := [(1, .int y11), (2, .int y1), (0, rf g o)]) rfl (by rw [hy11]; rfl) dX5_readSum_49 rfl (by decide) rfl ?_
      refine fr_goto (n := 6) dX5_readSum_52 (by decide) ?_
      exact fr_sub [2, 0] rfl h
    · have h := h.2 hc
      refine fr_aload_n (i := 0) (q := 0) rfl dX5_readSum_22 rfl ?_
      refine fr_getI dX5_readSum_23 rfl fl_X5_52 k_o ?_
      refine fr_bipush (v := 28) (by decide) dX5_readSum_26 rfl ?_
      refine fr_icmp_ne (tgt := 55) dX5_readSum_28 (by decide) rfl (fun hc => ?_) (fun hc => ?_)
      · have h := h.1 hc
        exact fr_vret rfl dX5_readSum_55 h.1 h.2
      · have h := h.2 hc
        refine fr_aload_n (i := 0) (q := 0) rfl dX5_readSum_31 rfl ?_
        refine fr_getI dX5_readSum_32 rfl fl_X5_52 k_o ?_
        refine fr_topi (fun y12 hy12 => ?_)
        have h := h y12 hy12
        refine fr_istore_n (i := 2) (lv' := [(2, .int y12), (0, rf g o), (1, .int u1)]) dX5_readSum_35 rfl (by decide) rfl ?_
        refine fr_aload_n (i := 0) (q := 1) rfl dX5_readSum_36 rfl ?_
        obtain ⟨I13, L14, hc15, h⟩ := h
        refine fr_callV2 (ν := mu_X5_next) (st2 := []) (As := []) (st := []) (v := none) (M1 := (Z, I13, L14)) dX5_readSum_37 rfl ml_X5_77 mo_X5_next mi_X5_next (ci := 5) rfl rfl k_o (Nat.le_trans (Nat.le_of_ble_eq_true rfl) hH) rfl rfl (Nat.le_of_ble_eq_true rfl) hc15 rfl ?_
        refine fr_aload_n (i := 0) (q := 1) rfl dX5_readSum_40 rfl ?_
        obtain ⟨I16, L17, hc18, h⟩ := h
        refine fr_callV2 (ν := mu_X5_readProduct) (st2 := []) (As := []) (st := []) (v := none) (M1 := (Z, I16, L17)) dX5_readSum_41 rfl ml_X5_102 mo_X5_readProduct mi_X5_readProduct (ci := 5) rfl rfl k_o hd rfl rfl (Nat.le_of_ble_eq_true rfl) hc18 rfl ?_
        refine fr_aload_n (i := 0) (q := 1) rfl dX5_readSum_44 rfl ?_
        refine fr_iload_n (i := 2) (q := 0) rfl dX5_readSum_45 rfl ?_
        obtain ⟨I19, L20, hc21, h⟩ := h
        refine fr_callV2 (ν := mu_X5_order) (st2 := []) (As := [.int y12]) (st := []) (v := none) (M1 := (Z, I19, L20)) dX5_readSum_46 rfl ml_X5_89 mo_X5_order mi_X5_order (ci := 5) rfl rfl k_o (Nat.le_trans (Nat.le_of_ble_eq_true rfl) hH) rfl rfl (Nat.le_of_ble_eq_true rfl) hc21 rfl ?_
        obtain ⟨y22, hy22⟩ : ∃ y : Int32, y = u1 + 1 := ⟨_, rfl⟩
        have h := h y22 hy22
        refine fr_iinc (q := 2) (v := y22) (lv' := [(1, .int y22), (2, .int y12), (0, rf g o)]) rfl (by rw [hy22]; rfl) dX5_readSum_49 rfl (by decide) rfl ?_
        refine fr_goto (n := 6) dX5_readSum_52 (by decide) ?_
        exact fr_sub [2, 0] rfl h
abbrev Lp_X5_readProduct_6 (g : GE) (d : Nat) (o : Nat) (u1 : Int32) (M : Mem) (r : Option Value) (M' : Mem) : Prop := Fr g d mu_X5_readProduct 6 [(0, rf g o), (1, .int u1)] [] M r M'
theorem cp_X5_readProduct {d dc : Nat} (hd : dc + 1 ≤ d) (hH : 4 ≤ d) {g : GE} {Z : Zs} {I : Nat → Nat → Int32} {L : Nat → Nat → Int64} {r : Option Value} {M' : Mem} {o : Nat} (k_o : KM Z o 5) (h : (∃ (I1 : Nat → Nat → Int32) (L2 : Nat → Nat → Int64), Cl g dc mu_X5_readOne [rf g o] (Z, I, L) none (Z, I1, L2) ∧ Lp_X5_readProduct_6 g d o 0 (Z, I1, L2) r M')) : Cl g d mu_X5_readProduct [rf g o] (Z, I, L) r M' := by
  refine cl_of (lv := [(0, rf g o)]) (by decide) (Nat.le_of_ble_eq_true rfl) rfl ?_
  refine fr_aload_n (i := 0) (q := 0) rfl dX5_readProduct_0 rfl ?_
  obtain ⟨I1, L2, hc3, h⟩ := h
  refine fr_callV2 (ν := mu_X5_readOne) (st2 := []) (As := []) (st := []) (v := none) (M1 := (Z, I1, L2)) dX5_readProduct_1 rfl ml_X5_105 mo_X5_readOne mi_X5_readOne (ci := 5) rfl rfl k_o hd rfl rfl (Nat.le_of_ble_eq_true rfl) hc3 rfl ?_
  refine fr_iconst (v := 0) (by decide) dX5_readProduct_4 rfl ?_
  refine fr_istore_n (i := 1) (lv' := [(1, .int 0), (0, rf g o)]) dX5_readProduct_5 rfl (by decide) rfl ?_
  exact fr_sub [1, 0] rfl h
theorem wp_X5_readProduct_6 {d dc : Nat} (hd : dc + 1 ≤ d) (hH : 4 ≤ d) {g : GE} {Z : Zs} {I : Nat → Nat → Int32} {L : Nat → Nat → Int64} {r : Option Value} {M' : Mem} {o : Nat} {u1 : Int32} (k_o : KM Z o 5) (h : ((300 ≤ u1 → (r = none ∧ M' = (Z, I, L))) ∧ (¬ 300 ≤ u1 → (((I o 5) = 29 → (∀ y1 : Int32, y1 = (I o 5) → (∃ (I2 : Nat → Nat → Int32) (L3 : Nat → Nat → Int64), Cl g 3 mu_X5_next [rf g o] (Z, I, L) none (Z, I2, L3) ∧ (∃ (I5 : Nat → Nat → Int32) (L6 : Nat → Nat → Int64), Cl g dc mu_X5_readOne [rf g o] (Z, I2, L3) none (Z, I5, L6) ∧ (∃ (I8 : Nat → Nat → Int32) (L9 : Nat → Nat → Int64), Cl g 1 mu_X5_order [rf g o, .int y1] (Z, I5, L6) none (Z, I8, L9) ∧ (∀ y11 : Int32, y11 = (u1 + 1) → Lp_X5_readProduct_6 g d o y11 (Z, I8, L9) r M')))))) ∧ (¬ (I o 5) = 29 → ((¬ (I o 5) = 30 → (r = none ∧ M' = (Z, I, L))) ∧ ((I o 5) = 30 → (∀ y12 : Int32, y12 = (I o 5) → (∃ (I13 : Nat → Nat → Int32) (L14 : Nat → Nat → Int64), Cl g 3 mu_X5_next [rf g o] (Z, I, L) none (Z, I13, L14) ∧ (∃ (I16 : Nat → Nat → Int32) (L17 : Nat → Nat → Int64), Cl g dc mu_X5_readOne [rf g o] (Z, I13, L14) none (Z, I16, L17) ∧ (∃ (I19 : Nat → Nat → Int32) (L20 : Nat → Nat → Int64), Cl g 1 mu_X5_order [rf g o, .int y12] (Z, I16, L17) none (Z, I19, L20) ∧ (∀ y22 : Int32, y22 = (u1 + 1) → Lp_X5_readProduct_6 g d o y22 (Z, I19, L20) r M')))))))))))) : Lp_X5_readProduct_6 g d o u1 (Z, I, L) r M' := by
  refine fr_iload_n (i := 1) (q := 1) rfl dX5_readProduct_6 rfl ?_
  refine fr_sipush (v := 300) (by decide) dX5_readProduct_7 rfl ?_
  refine fr_icmp_ge (tgt := 55) dX5_readProduct_10 (by decide) rfl (fun hc => ?_) (fun hc => ?_)
  · have h := h.1 hc
    exact fr_vret rfl dX5_readProduct_55 h.1 h.2
  · have h := h.2 hc
    refine fr_aload_n (i := 0) (q := 0) rfl dX5_readProduct_13 rfl ?_
    refine fr_getI dX5_readProduct_14 rfl fl_X5_52 k_o ?_
    refine fr_bipush (v := 29) (by decide) dX5_readProduct_17 rfl ?_
    refine fr_icmp_eq (tgt := 31) dX5_readProduct_19 (by decide) rfl (fun hc => ?_) (fun hc => ?_)
    · have h := h.1 hc
      refine fr_aload_n (i := 0) (q := 0) rfl dX5_readProduct_31 rfl ?_
      refine fr_getI dX5_readProduct_32 rfl fl_X5_52 k_o ?_
      refine fr_topi (fun y1 hy1 => ?_)
      have h := h y1 hy1
      refine fr_istore_n (i := 2) (lv' := [(2, .int y1), (0, rf g o), (1, .int u1)]) dX5_readProduct_35 rfl (by decide) rfl ?_
      refine fr_aload_n (i := 0) (q := 1) rfl dX5_readProduct_36 rfl ?_
      obtain ⟨I2, L3, hc4, h⟩ := h
      refine fr_callV2 (ν := mu_X5_next) (st2 := []) (As := []) (st := []) (v := none) (M1 := (Z, I2, L3)) dX5_readProduct_37 rfl ml_X5_77 mo_X5_next mi_X5_next (ci := 5) rfl rfl k_o (Nat.le_trans (Nat.le_of_ble_eq_true rfl) hH) rfl rfl (Nat.le_of_ble_eq_true rfl) hc4 rfl ?_
      refine fr_aload_n (i := 0) (q := 1) rfl dX5_readProduct_40 rfl ?_
      obtain ⟨I5, L6, hc7, h⟩ := h
      refine fr_callV2 (ν := mu_X5_readOne) (st2 := []) (As := []) (st := []) (v := none) (M1 := (Z, I5, L6)) dX5_readProduct_41 rfl ml_X5_105 mo_X5_readOne mi_X5_readOne (ci := 5) rfl rfl k_o hd rfl rfl (Nat.le_of_ble_eq_true rfl) hc7 rfl ?_
      refine fr_aload_n (i := 0) (q := 1) rfl dX5_readProduct_44 rfl ?_
      refine fr_iload_n (i := 2) (q := 0) rfl dX5_readProduct_45 rfl ?_
      obtain ⟨I8, L9, hc10, h⟩ := h
      refine fr_callV2 (ν := mu_X5_order) (st2 := []) (As := [.int y1]) (st := []) (v := none) (M1 := (Z, I8, L9)) dX5_readProduct_46 rfl ml_X5_89 mo_X5_order mi_X5_order (ci := 5) rfl rfl k_o (Nat.le_trans (Nat.le_of_ble_eq_true rfl) hH) rfl rfl (Nat.le_of_ble_eq_true rfl) hc10 rfl ?_
      obtain ⟨y11, hy11⟩ : ∃ y : Int32, y = u1 + 1 := ⟨_, rfl⟩
      have h := h y11 hy11
      refine fr_iinc (q := 2) (v := y11) (lv' := [(1, .int y11), (2, .int y1), (0, rf g o)]) rfl (by rw [hy11]; rfl) dX5_readProduct_49 rfl (by decide) rfl ?_
      refine fr_goto (n := 6) dX5_readProduct_52 (by decide) ?_
      exact fr_sub [2, 0] rfl h
    · have h := h.2 hc
      refine fr_aload_n (i := 0) (q := 0) rfl dX5_readProduct_22 rfl ?_
      refine fr_getI dX5_readProduct_23 rfl fl_X5_52 k_o ?_
      refine fr_bipush (v := 30) (by decide) dX5_readProduct_26 rfl ?_
      refine fr_icmp_ne (tgt := 55) dX5_readProduct_28 (by decide) rfl (fun hc => ?_) (fun hc => ?_)
      · have h := h.1 hc
        exact fr_vret rfl dX5_readProduct_55 h.1 h.2
      · have h := h.2 hc
        refine fr_aload_n (i := 0) (q := 0) rfl dX5_readProduct_31 rfl ?_
        refine fr_getI dX5_readProduct_32 rfl fl_X5_52 k_o ?_
        refine fr_topi (fun y12 hy12 => ?_)
        have h := h y12 hy12
        refine fr_istore_n (i := 2) (lv' := [(2, .int y12), (0, rf g o), (1, .int u1)]) dX5_readProduct_35 rfl (by decide) rfl ?_
        refine fr_aload_n (i := 0) (q := 1) rfl dX5_readProduct_36 rfl ?_
        obtain ⟨I13, L14, hc15, h⟩ := h
        refine fr_callV2 (ν := mu_X5_next) (st2 := []) (As := []) (st := []) (v := none) (M1 := (Z, I13, L14)) dX5_readProduct_37 rfl ml_X5_77 mo_X5_next mi_X5_next (ci := 5) rfl rfl k_o (Nat.le_trans (Nat.le_of_ble_eq_true rfl) hH) rfl rfl (Nat.le_of_ble_eq_true rfl) hc15 rfl ?_
        refine fr_aload_n (i := 0) (q := 1) rfl dX5_readProduct_40 rfl ?_
        obtain ⟨I16, L17, hc18, h⟩ := h
        refine fr_callV2 (ν := mu_X5_readOne) (st2 := []) (As := []) (st := []) (v := none) (M1 := (Z, I16, L17)) dX5_readProduct_41 rfl ml_X5_105 mo_X5_readOne mi_X5_readOne (ci := 5) rfl rfl k_o hd rfl rfl (Nat.le_of_ble_eq_true rfl) hc18 rfl ?_
        refine fr_aload_n (i := 0) (q := 1) rfl dX5_readProduct_44 rfl ?_
        refine fr_iload_n (i := 2) (q := 0) rfl dX5_readProduct_45 rfl ?_
        obtain ⟨I19, L20, hc21, h⟩ := h
        refine fr_callV2 (ν := mu_X5_order) (st2 := []) (As := [.int y12]) (st := []) (v := none) (M1 := (Z, I19, L20)) dX5_readProduct_46 rfl ml_X5_89 mo_X5_order mi_X5_order (ci := 5) rfl rfl k_o (Nat.le_trans (Nat.le_of_ble_eq_true rfl) hH) rfl rfl (Nat.le_of_ble_eq_true rfl) hc21 rfl ?_
        obtain ⟨y22, hy22⟩ : ∃ y : Int32, y = u1 + 1 := ⟨_, rfl⟩
        have h := h y22 hy22
        refine fr_iinc (q := 2) (v := y22) (lv' := [(1, .int y22), (2, .int y12), (0, rf g o)]) rfl (by rw [hy22]; rfl) dX5_readProduct_49 rfl (by decide) rfl ?_
        refine fr_goto (n := 6) dX5_readProduct_52 (by decide) ?_
        exact fr_sub [2, 0] rfl h
theorem cp_X5_readOne {d dc : Nat} (hd : dc + 1 ≤ d) (hH : 5 ≤ d) {g : GE} {Z : Zs} {I : Nat → Nat → Int32} {L : Nat → Nat → Int64} {r : Option Value} {M' : Mem} {o : Nat} (k_o : KM Z o 5) (h : ((¬ (I o 5) = 19 → ((¬ (I o 5) = 20 → (((I o 5) = 31 → (∃ (v1 : Int32) (I2 : Nat → Nat → Int32) (L3 : Nat → Nat → Int64), Cl g 4 mu_X5_opens [rf g o] (Z, I, L) (some (.int v1)) (Z, I2, L3) ∧ ((v1 = 0 → (r = none ∧ M' = (Z, I2, L3))) ∧ (¬ v1 = 0 → (∃ (I5 : Nat → Nat → Int32) (L6 : Nat → Nat → Int64), Cl g dc mu_X5_readOpened [rf g o] (Z, I2, L3) none (Z, I5, L6) ∧ (∀ I8 : Nat → Nat → Int32, I8 = rw1 I5 o (upd (I5 o) 7 ((I5 o 7) - 1)) → (r = none ∧ M' = (Z, I8, L6)))))))) ∧ (¬ (I o 5) = 31 → (((I o 5) = 28 → (∃ (v9 : Int32) (I10 : Nat → Nat → Int32) (L11 : Nat → Nat → Int64), Cl g 4 mu_X5_opens [rf g o] (Z, I, L) (some (.int v9)) (Z, I10, L11) ∧ ((v9 = 0 → (r = none ∧ M' = (Z, I10, L11))) ∧ (¬ v9 = 0 → (∃ (I13 : Nat → Nat → Int32) (L14 : Nat → Nat → Int64), Cl g dc mu_X5_readOpened [rf g o] (Z, I10, L11) none (Z, I13, L14) ∧ (∀ I16 : Nat → Nat → Int32, I16 = rw1 I13 o (upd (I13 o) 7 ((I13 o 7) - 1)) → (r = none ∧ M' = (Z, I16, L14)))))))) ∧ (¬ (I o 5) = 28 → (((I o 5) = 14 → (∃ (v17 : Int32) (I18 : Nat → Nat → Int32) (L19 : Nat → Nat → Int64), Cl g 4 mu_X5_opens [rf g o] (Z, I, L) (some (.int v17)) (Z, I18, L19) ∧ ((v17 = 0 → (r = none ∧ M' = (Z, I18, L19))) ∧ (¬ v17 = 0 → (∃ (I21 : Nat → Nat → Int32) (L22 : Nat → Nat → Int64), Cl g dc mu_X5_readOpened [rf g o] (Z, I18, L19) none (Z, I21, L22) ∧ (∀ I24 : Nat → Nat → Int32, I24 = rw1 I21 o (upd (I21 o) 7 ((I21 o 7) - 1)) → (r = none ∧ M' = (Z, I24, L22)))))))) ∧ (¬ (I o 5) = 14 → (∃ (I25 : Nat → Nat → Int32) (L26 : Nat → Nat → Int64), Cl g 3 mu_X5_fail [rf g o, .int 1] (Z, I, L) none (Z, I25, L26) ∧ (r = none ∧ M' = (Z, I25, L26)))))))))) ∧ ((I o 5) = 20 → (∃ (I28 : Nat → Nat → Int32) (L29 : Nat → Nat → Int64), Cl g 4 mu_X5_readName [rf g o] (Z, I, L) none (Z, I28, L29) ∧ (r = none ∧ M' = (Z, I28, L29)))))) ∧ ((I o 5) = 19 → (∃ (I31 : Nat → Nat → Int32) (L32 : Nat → Nat → Int64), Cl g 4 mu_X5_readNumber [rf g o] (Z, I, L) none (Z, I31, L32) ∧ (r = none ∧ M' = (Z, I31, L32)))))) : Cl g d mu_X5_readOne [rf g o] (Z, I, L) r M' := by
  refine cl_of (lv := [(0, rf g o)]) (by decide) (Nat.le_of_ble_eq_true rfl) rfl ?_
  refine fr_aload_n (i := 0) (q := 0) rfl dX5_readOne_0 rfl ?_
  refine fr_getI dX5_readOne_1 rfl fl_X5_52 k_o ?_
  refine fr_bipush (v := 19) (by decide) dX5_readOne_4 rfl ?_
  refine fr_icmp_ne (tgt := 16) dX5_readOne_6 (by decide) rfl (fun hc => ?_) (fun hc => ?_)
  · have h := h.1 hc
    refine fr_aload_n (i := 0) (q := 0) rfl dX5_readOne_16 rfl ?_
    refine fr_getI dX5_readOne_17 rfl fl_X5_52 k_o ?_
    refine fr_bipush (v := 20) (by decide) dX5_readOne_20 rfl ?_
    refine fr_icmp_ne (tgt := 32) dX5_readOne_22 (by decide) rfl (fun hc => ?_) (fun hc => ?_)
    · have h := h.1 hc
      refine fr_aload_n (i := 0) (q := 0) rfl dX5_readOne_32 rfl ?_
      refine fr_getI dX5_readOne_33 rfl fl_X5_52 k_o ?_
      refine fr_bipush (v := 31) (by decide) dX5_readOne_36 rfl ?_
      refine fr_icmp_eq (tgt := 67) dX5_readOne_38 (by decide) rfl (fun hc => ?_) (fun hc => ?_)
      · have h := h.1 hc
        refine fr_aload_n (i := 0) (q := 0) rfl dX5_readOne_67 rfl ?_
        obtain ⟨v1, I2, L3, hc4, h⟩ := h
        refine fr_callV2 (ν := mu_X5_opens) (st2 := [.int v1]) (As := []) (st := []) (v := (some (.int v1))) (M1 := (Z, I2, L3)) dX5_readOne_68 rfl ml_X5_98 mo_X5_opens mi_X5_opens (ci := 5) rfl rfl k_o (Nat.le_trans (Nat.le_of_ble_eq_true rfl) hH) rfl rfl (Nat.le_of_ble_eq_true rfl) hc4 rfl ?_
        refine fr_if_eq (tgt := 88) dX5_readOne_71 (by decide) rfl (fun hc => ?_) (fun hc => ?_)
        · have h := h.1 hc
          exact fr_vret rfl dX5_readOne_88 h.1 h.2
        · have h := h.2 hc
          refine fr_aload_n (i := 0) (q := 0) rfl dX5_readOne_74 rfl ?_
          obtain ⟨I5, L6, hc7, h⟩ := h
          refine fr_callV2 (ν := mu_X5_readOpened) (st2 := []) (As := []) (st := []) (v := none) (M1 := (Z, I5, L6)) dX5_readOne_75 rfl ml_X5_114 mo_X5_readOpened mi_X5_readOpened (ci := 5) rfl rfl k_o hd rfl rfl (Nat.le_of_ble_eq_true rfl) hc7 rfl ?_
          refine fr_aload_n (i := 0) (q := 0) rfl dX5_readOne_78 rfl ?_
          refine fr_dup rfl dX5_readOne_79 rfl ?_
          refine fr_getI dX5_readOne_80 rfl fl_X5_55 k_o ?_
          refine fr_iconst (v := 1) (by decide) dX5_readOne_83 rfl ?_
          refine fr_isub dX5_readOne_84 rfl ?_
          refine fr_putI dX5_readOne_85 rfl fp_X5_55 k_o ?_
          refine fr_memI (fun I8 hI8 => ?_)
          have h := h I8 hI8
          exact fr_vret rfl dX5_readOne_88 h.1 h.2
      · have h := h.2 hc
        refine fr_aload_n (i := 0) (q := 0) rfl dX5_readOne_41 rfl ?_
        refine fr_getI dX5_readOne_42 rfl fl_X5_52 k_o ?_
        refine fr_bipush (v := 28) (by decide) dX5_readOne_45 rfl ?_
        refine fr_icmp_eq (tgt := 67) dX5_readOne_47 (by decide) rfl (fun hc => ?_) (fun hc => ?_)
        · have h := h.1 hc
          refine fr_aload_n (i := 0) (q := 0) rfl dX5_readOne_67 rfl ?_
          obtain ⟨v9, I10, L11, hc12, h⟩ := h
          refine fr_callV2 (ν := mu_X5_opens) (st2 := [.int v9]) (As := []) (st := []) (v := (some (.int v9))) (M1 := (Z, I10, L11)) dX5_readOne_68 rfl ml_X5_98 mo_X5_opens mi_X5_opens (ci := 5) rfl rfl k_o (Nat.le_trans (Nat.le_of_ble_eq_true rfl) hH) rfl rfl (Nat.le_of_ble_eq_true rfl) hc12 rfl ?_
          refine fr_if_eq (tgt := 88) dX5_readOne_71 (by decide) rfl (fun hc => ?_) (fun hc => ?_)
          · have h := h.1 hc
            exact fr_vret rfl dX5_readOne_88 h.1 h.2
          · have h := h.2 hc
            refine fr_aload_n (i := 0) (q := 0) rfl dX5_readOne_74 rfl ?_
            obtain ⟨I13, L14, hc15, h⟩ := h
            refine fr_callV2 (ν := mu_X5_readOpened) (st2 := []) (As := []) (st := []) (v := none) (M1 := (Z, I13, L14)) dX5_readOne_75 rfl ml_X5_114 mo_X5_readOpened mi_X5_readOpened (ci := 5) rfl rfl k_o hd rfl rfl (Nat.le_of_ble_eq_true rfl) hc15 rfl ?_
            refine fr_aload_n (i := 0) (q := 0) rfl dX5_readOne_78 rfl ?_
            refine fr_dup rfl dX5_readOne_79 rfl ?_
            refine fr_getI dX5_readOne_80 rfl fl_X5_55 k_o ?_
            refine fr_iconst (v := 1) (by decide) dX5_readOne_83 rfl ?_
            refine fr_isub dX5_readOne_84 rfl ?_
            refine fr_putI dX5_readOne_85 rfl fp_X5_55 k_o ?_
            refine fr_memI (fun I16 hI16 => ?_)
            have h := h I16 hI16
            exact fr_vret rfl dX5_readOne_88 h.1 h.2
        · have h := h.2 hc
          refine fr_aload_n (i := 0) (q := 0) rfl dX5_readOne_50 rfl ?_
          refine fr_getI dX5_readOne_51 rfl fl_X5_52 k_o ?_
          refine fr_bipush (v := 14) (by decide) dX5_readOne_54 rfl ?_
          refine fr_icmp_eq (tgt := 67) dX5_readOne_56 (by decide) rfl (fun hc => ?_) (fun hc => ?_)
          · have h := h.1 hc
            refine fr_aload_n (i := 0) (q := 0) rfl dX5_readOne_67 rfl ?_
            obtain ⟨v17, I18, L19, hc20, h⟩ := h
            refine fr_callV2 (ν := mu_X5_opens) (st2 := [.int v17]) (As := []) (st := []) (v := (some (.int v17))) (M1 := (Z, I18, L19)) dX5_readOne_68 rfl ml_X5_98 mo_X5_opens mi_X5_opens (ci := 5) rfl rfl k_o (Nat.le_trans (Nat.le_of_ble_eq_true rfl) hH) rfl rfl (Nat.le_of_ble_eq_true rfl) hc20 rfl ?_
            refine fr_if_eq (tgt := 88) dX5_readOne_71 (by decide) rfl (fun hc => ?_) (fun hc => ?_)
            · have h := h.1 hc
              exact fr_vret rfl dX5_readOne_88 h.1 h.2
            · have h := h.2 hc
              refine fr_aload_n (i := 0) (q := 0) rfl dX5_readOne_74 rfl ?_
              obtain ⟨I21, L22, hc23, h⟩ := h
              refine fr_callV2 (ν := mu_X5_readOpened) (st2 := []) (As := []) (st := []) (v := none) (M1 := (Z, I21, L22)) dX5_readOne_75 rfl ml_X5_114 mo_X5_readOpened mi_X5_readOpened (ci := 5) rfl rfl k_o hd rfl rfl (Nat.le_of_ble_eq_true rfl) hc23 rfl ?_
              refine fr_aload_n (i := 0) (q := 0) rfl dX5_readOne_78 rfl ?_
              refine fr_dup rfl dX5_readOne_79 rfl ?_
              refine fr_getI dX5_readOne_80 rfl fl_X5_55 k_o ?_
              refine fr_iconst (v := 1) (by decide) dX5_readOne_83 rfl ?_
              refine fr_isub dX5_readOne_84 rfl ?_
              refine fr_putI dX5_readOne_85 rfl fp_X5_55 k_o ?_
              refine fr_memI (fun I24 hI24 => ?_)
              have h := h I24 hI24
              exact fr_vret rfl dX5_readOne_88 h.1 h.2
          · have h := h.2 hc
            refine fr_aload_n (i := 0) (q := 0) rfl dX5_readOne_59 rfl ?_
            refine fr_iconst (v := 1) (by decide) dX5_readOne_60 rfl ?_
            obtain ⟨I25, L26, hc27, h⟩ := h
            refine fr_callV2 (ν := mu_X5_fail) (st2 := []) (As := [.int 1]) (st := []) (v := none) (M1 := (Z, I25, L26)) dX5_readOne_61 rfl ml_X5_70 mo_X5_fail mi_X5_fail (ci := 5) rfl rfl k_o (Nat.le_trans (Nat.le_of_ble_eq_true rfl) hH) rfl rfl (Nat.le_of_ble_eq_true rfl) hc27 rfl ?_
            refine fr_goto (n := 88) dX5_readOne_64 (by decide) ?_
            exact fr_vret rfl dX5_readOne_88 h.1 h.2
    · have h := h.2 hc
      refine fr_aload_n (i := 0) (q := 0) rfl dX5_readOne_25 rfl ?_
      obtain ⟨I28, L29, hc30, h⟩ := h
      refine fr_callV2 (ν := mu_X5_readName) (st2 := []) (As := []) (st := []) (v := none) (M1 := (Z, I28, L29)) dX5_readOne_26 rfl ml_X5_111 mo_X5_readName mi_X5_readName (ci := 5) rfl rfl k_o (Nat.le_trans (Nat.le_of_ble_eq_true rfl) hH) rfl rfl (Nat.le_of_ble_eq_true rfl) hc30 rfl ?_
      refine fr_goto (n := 88) dX5_readOne_29 (by decide) ?_
      exact fr_vret rfl dX5_readOne_88 h.1 h.2
  · have h := h.2 hc
    refine fr_aload_n (i := 0) (q := 0) rfl dX5_readOne_9 rfl ?_
    obtain ⟨I31, L32, hc33, h⟩ := h
    refine fr_callV2 (ν := mu_X5_readNumber) (st2 := []) (As := []) (st := []) (v := none) (M1 := (Z, I31, L32)) dX5_readOne_10 rfl ml_X5_108 mo_X5_readNumber mi_X5_readNumber (ci := 5) rfl rfl k_o (Nat.le_trans (Nat.le_of_ble_eq_true rfl) hH) rfl rfl (Nat.le_of_ble_eq_true rfl) hc33 rfl ?_
    refine fr_goto (n := 88) dX5_readOne_13 (by decide) ?_
    exact fr_vret rfl dX5_readOne_88 h.1 h.2
theorem cp_X5_readNumber {g : GE} {Z : Zs} {I : Nat → Nat → Int32} {L : Nat → Nat → Int64} {r : Option Value} {M' : Mem} {o : Nat} {o_tokens : Nat} (k_o : KM Z o 5) (r_o_tokens : Z.2.1 o 0 = some o_tokens) (k_o_tokens : KM Z o_tokens 9) (h : (∃ (v1 : Int32), Cl g 2 mu_X9_valueAt [rf g o_tokens, .int (I o 4)] (Z, I, L) (some (.int v1)) (Z, I, L) ∧ ((v1 ≤ 9999 → (∃ (v3 : Int32) (I4 : Nat → Nat → Int32) (L5 : Nat → Nat → Int64), Cl g 2 mu_X5_orderWith [rf g o, .int 19, .int v1] (Z, I, L) (some (.int v3)) (Z, I4, L5) ∧ (∃ (I7 : Nat → Nat → Int32) (L8 : Nat → Nat → Int64), Cl g 3 mu_X5_next [rf g o] (Z, I4, L5) none (Z, I7, L8) ∧ (r = none ∧ M' = (Z, I7, L8))))) ∧ (¬ v1 ≤ 9999 → (∃ (I10 : Nat → Nat → Int32) (L11 : Nat → Nat → Int64), Cl g 3 mu_X5_fail [rf g o, .int 2] (Z, I, L) none (Z, I10, L11) ∧ (r = none ∧ M' = (Z, I10, L11))))))) : Cl g 4 mu_X5_readNumber [rf g o] (Z, I, L) r M' := by
  refine cl_of (lv := [(0, rf g o)]) (by decide) (Nat.le_of_ble_eq_true rfl) rfl ?_
  refine fr_aload_n (i := 0) (q := 0) rfl dX5_readNumber_0 rfl ?_
  refine fr_getR dX5_readNumber_1 rfl fl_X5_12 k_o r_o_tokens ?_
  refine fr_aload_n (i := 0) (q := 0) rfl dX5_readNumber_4 rfl ?_
  refine fr_getI dX5_readNumber_5 rfl fl_X5_45 k_o ?_
  obtain ⟨v1, hc2, h⟩ := h
  refine fr_callV2 (ν := mu_X9_valueAt) (st2 := [.int v1]) (As := [.int (I o 4)]) (st := []) (v := (some (.int v1))) (M1 := (Z, I, L)) dX5_readNumber_8 rfl ml_X5_117 mo_X9_valueAt mi_X9_valueAt (ci := 9) rfl rfl k_o_tokens (Nat.le_of_ble_eq_true rfl) rfl rfl (Nat.le_of_ble_eq_true rfl) hc2 rfl ?_
  refine fr_istore_n (i := 1) (lv' := [(1, .int v1), (0, rf g o)]) dX5_readNumber_11 rfl (by decide) rfl ?_
  refine fr_iload_n (i := 1) (q := 0) rfl dX5_readNumber_12 rfl ?_
  refine fr_sipush (v := 9999) (by decide) dX5_readNumber_13 rfl ?_
  refine fr_icmp_le (tgt := 25) dX5_readNumber_16 (by decide) rfl (fun hc => ?_) (fun hc => ?_)
  · have h := h.1 hc
    refine fr_aload_n (i := 0) (q := 1) rfl dX5_readNumber_25 rfl ?_
    refine fr_bipush (v := 19) (by decide) dX5_readNumber_26 rfl ?_
    refine fr_iload_n (i := 1) (q := 0) rfl dX5_readNumber_28 rfl ?_
    obtain ⟨v3, I4, L5, hc6, h⟩ := h
    refine fr_callV2 (ν := mu_X5_orderWith) (st2 := [.int v3]) (As := [.int 19, .int v1]) (st := []) (v := (some (.int v3))) (M1 := (Z, I4, L5)) dX5_readNumber_29 rfl ml_X5_120 mo_X5_orderWith mi_X5_orderWith (ci := 5) rfl rfl k_o (Nat.le_of_ble_eq_true rfl) rfl rfl (Nat.le_of_ble_eq_true rfl) hc6 rfl ?_
    refine fr_pop rfl dX5_readNumber_32 rfl ?_
    refine fr_aload_n (i := 0) (q := 1) rfl dX5_readNumber_33 rfl ?_
    obtain ⟨I7, L8, hc9, h⟩ := h
    refine fr_callV2 (ν := mu_X5_next) (st2 := []) (As := []) (st := []) (v := none) (M1 := (Z, I7, L8)) dX5_readNumber_34 rfl ml_X5_77 mo_X5_next mi_X5_next (ci := 5) rfl rfl k_o (Nat.le_of_ble_eq_true rfl) rfl rfl (Nat.le_of_ble_eq_true rfl) hc9 rfl ?_
    exact fr_vret rfl dX5_readNumber_37 h.1 h.2
  · have h := h.2 hc
    refine fr_aload_n (i := 0) (q := 1) rfl dX5_readNumber_19 rfl ?_
    refine fr_iconst (v := 2) (by decide) dX5_readNumber_20 rfl ?_
    obtain ⟨I10, L11, hc12, h⟩ := h
    refine fr_callV2 (ν := mu_X5_fail) (st2 := []) (As := [.int 2]) (st := []) (v := none) (M1 := (Z, I10, L11)) dX5_readNumber_21 rfl ml_X5_70 mo_X5_fail mi_X5_fail (ci := 5) rfl rfl k_o (Nat.le_of_ble_eq_true rfl) rfl rfl (Nat.le_of_ble_eq_true rfl) hc12 rfl ?_
    exact fr_vret rfl dX5_readNumber_24 h.1 h.2
theorem cp_X5_readName {g : GE} {Z : Zs} {I : Nat → Nat → Int32} {L : Nat → Nat → Int64} {r : Option Value} {M' : Mem} {o : Nat} {o_tokens : Nat} (k_o : KM Z o 5) (r_o_tokens : Z.2.1 o 0 = some o_tokens) (k_o_tokens : KM Z o_tokens 9) (h : (∃ (v1 : Int32), Cl g 2 mu_X9_valueAt [rf g o_tokens, .int (I o 4)] (Z, I, L) (some (.int v1)) (Z, I, L) ∧ ((v1 < 6 → ((¬ (I o 6) = 13 → (∃ (v3 : Int32) (I4 : Nat → Nat → Int32) (L5 : Nat → Nat → Int64), Cl g 2 mu_X5_orderWith [rf g o, .int 20, .int v1] (Z, I, L) (some (.int v3)) (Z, I4, L5) ∧ (∃ (I7 : Nat → Nat → Int32) (L8 : Nat → Nat → Int64), Cl g 3 mu_X5_next [rf g o] (Z, I4, L5) none (Z, I7, L8) ∧ (r = none ∧ M' = (Z, I7, L8))))) ∧ ((I o 6) = 13 → (∃ (I10 : Nat → Nat → Int32) (L11 : Nat → Nat → Int64), Cl g 3 mu_X5_fail [rf g o, .int 5] (Z, I, L) none (Z, I10, L11) ∧ (r = none ∧ M' = (Z, I10, L11)))))) ∧ (¬ v1 < 6 → ((¬ (I o 6) = 13 → (∃ (I13 : Nat → Nat → Int32) (L14 : Nat → Nat → Int64), Cl g 3 mu_X5_fail [rf g o, .int 5] (Z, I, L) none (Z, I13, L14) ∧ (r = none ∧ M' = (Z, I13, L14)))) ∧ ((I o 6) = 13 → (∃ (v16 : Int32) (I17 : Nat → Nat → Int32) (L18 : Nat → Nat → Int64), Cl g 2 mu_X5_orderWith [rf g o, .int 20, .int v1] (Z, I, L) (some (.int v16)) (Z, I17, L18) ∧ (∃ (I20 : Nat → Nat → Int32) (L21 : Nat → Nat → Int64), Cl g 3 mu_X5_next [rf g o] (Z, I17, L18) none (Z, I20, L21) ∧ (r = none ∧ M' = (Z, I20, L21)))))))))) : Cl g 4 mu_X5_readName [rf g o] (Z, I, L) r M' := by
  refine cl_of (lv := [(0, rf g o)]) (by decide) (Nat.le_of_ble_eq_true rfl) rfl ?_
  refine fr_aload_n (i := 0) (q := 0) rfl dX5_readName_0 rfl ?_
  refine fr_getR dX5_readName_1 rfl fl_X5_12 k_o r_o_tokens ?_
  refine fr_aload_n (i := 0) (q := 0) rfl dX5_readName_4 rfl ?_
  refine fr_getI dX5_readName_5 rfl fl_X5_45 k_o ?_
  obtain ⟨v1, hc2, h⟩ := h
  refine fr_callV2 (ν := mu_X9_valueAt) (st2 := [.int v1]) (As := [.int (I o 4)]) (st := []) (v := (some (.int v1))) (M1 := (Z, I, L)) dX5_readName_8 rfl ml_X5_117 mo_X9_valueAt mi_X9_valueAt (ci := 9) rfl rfl k_o_tokens (Nat.le_of_ble_eq_true rfl) rfl rfl (Nat.le_of_ble_eq_true rfl) hc2 rfl ?_
  refine fr_istore_n (i := 1) (lv' := [(1, .int v1), (0, rf g o)]) dX5_readName_11 rfl (by decide) rfl ?_
  refine fr_iload_n (i := 1) (q := 0) rfl dX5_readName_12 rfl ?_
  refine fr_bipush (v := 6) (by decide) dX5_readName_13 rfl ?_
  refine fr_icmp_lt (tgt := 22) dX5_readName_15 (by decide) rfl (fun hc => ?_) (fun hc => ?_)
  · have h := h.1 hc
    refine fr_iconst (v := 0) (by decide) dX5_readName_22 rfl ?_
    refine fr_aload_n (i := 0) (q := 1) rfl dX5_readName_23 rfl ?_
    refine fr_getI dX5_readName_24 rfl fl_X5_74 k_o ?_
    refine fr_bipush (v := 13) (by decide) dX5_readName_27 rfl ?_
    refine fr_icmp_ne (tgt := 36) dX5_readName_29 (by decide) rfl (fun hc => ?_) (fun hc => ?_)
    · have h := h.1 hc
      refine fr_iconst (v := 0) (by decide) dX5_readName_36 rfl ?_
      refine fr_icmp_eq (tgt := 46) dX5_readName_37 (by decide) rfl (fun _ => ?_) (fun hc => absurd hc (by decide))
      refine fr_aload_n (i := 0) (q := 1) rfl dX5_readName_46 rfl ?_
      refine fr_bipush (v := 20) (by decide) dX5_readName_47 rfl ?_
      refine fr_iload_n (i := 1) (q := 0) rfl dX5_readName_49 rfl ?_
      obtain ⟨v3, I4, L5, hc6, h⟩ := h
      refine fr_callV2 (ν := mu_X5_orderWith) (st2 := [.int v3]) (As := [.int 20, .int v1]) (st := []) (v := (some (.int v3))) (M1 := (Z, I4, L5)) dX5_readName_50 rfl ml_X5_120 mo_X5_orderWith mi_X5_orderWith (ci := 5) rfl rfl k_o (Nat.le_of_ble_eq_true rfl) rfl rfl (Nat.le_of_ble_eq_true rfl) hc6 rfl ?_
      refine fr_pop rfl dX5_readName_53 rfl ?_
      refine fr_aload_n (i := 0) (q := 1) rfl dX5_readName_54 rfl ?_
      obtain ⟨I7, L8, hc9, h⟩ := h
      refine fr_callV2 (ν := mu_X5_next) (st2 := []) (As := []) (st := []) (v := none) (M1 := (Z, I7, L8)) dX5_readName_55 rfl ml_X5_77 mo_X5_next mi_X5_next (ci := 5) rfl rfl k_o (Nat.le_of_ble_eq_true rfl) rfl rfl (Nat.le_of_ble_eq_true rfl) hc9 rfl ?_
      exact fr_vret rfl dX5_readName_58 h.1 h.2
    · have h := h.2 hc
      refine fr_iconst (v := 1) (by decide) dX5_readName_32 rfl ?_
      refine fr_goto (n := 37) dX5_readName_33 (by decide) ?_
      refine fr_icmp_eq (tgt := 46) dX5_readName_37 (by decide) rfl (fun hc => absurd hc (by decide)) (fun _ => ?_)
      refine fr_aload_n (i := 0) (q := 1) rfl dX5_readName_40 rfl ?_
      refine fr_iconst (v := 5) (by decide) dX5_readName_41 rfl ?_
      obtain ⟨I10, L11, hc12, h⟩ := h
      refine fr_callV2 (ν := mu_X5_fail) (st2 := []) (As := [.int 5]) (st := []) (v := none) (M1 := (Z, I10, L11)) dX5_readName_42 rfl ml_X5_70 mo_X5_fail mi_X5_fail (ci := 5) rfl rfl k_o (Nat.le_of_ble_eq_true rfl) rfl rfl (Nat.le_of_ble_eq_true rfl) hc12 rfl ?_
      exact fr_vret rfl dX5_readName_45 h.1 h.2
  · have h := h.2 hc
    refine fr_iconst (v := 1) (by decide) dX5_readName_18 rfl ?_
    refine fr_goto (n := 23) dX5_readName_19 (by decide) ?_
    refine fr_aload_n (i := 0) (q := 1) rfl dX5_readName_23 rfl ?_
    refine fr_getI dX5_readName_24 rfl fl_X5_74 k_o ?_
    refine fr_bipush (v := 13) (by decide) dX5_readName_27 rfl ?_
    refine fr_icmp_ne (tgt := 36) dX5_readName_29 (by decide) rfl (fun hc => ?_) (fun hc => ?_)
    · have h := h.1 hc
      refine fr_iconst (v := 0) (by decide) dX5_readName_36 rfl ?_
      refine fr_icmp_eq (tgt := 46) dX5_readName_37 (by decide) rfl (fun hc => absurd hc (by decide)) (fun _ => ?_)
      refine fr_aload_n (i := 0) (q := 1) rfl dX5_readName_40 rfl ?_
      refine fr_iconst (v := 5) (by decide) dX5_readName_41 rfl ?_
      obtain ⟨I13, L14, hc15, h⟩ := h
      refine fr_callV2 (ν := mu_X5_fail) (st2 := []) (As := [.int 5]) (st := []) (v := none) (M1 := (Z, I13, L14)) dX5_readName_42 rfl ml_X5_70 mo_X5_fail mi_X5_fail (ci := 5) rfl rfl k_o (Nat.le_of_ble_eq_true rfl) rfl rfl (Nat.le_of_ble_eq_true rfl) hc15 rfl ?_
      exact fr_vret rfl dX5_readName_45 h.1 h.2
    · have h := h.2 hc
      refine fr_iconst (v := 1) (by decide) dX5_readName_32 rfl ?_
      refine fr_goto (n := 37) dX5_readName_33 (by decide) ?_
      refine fr_icmp_eq (tgt := 46) dX5_readName_37 (by decide) rfl (fun _ => ?_) (fun hc => absurd hc (by decide))
      refine fr_aload_n (i := 0) (q := 1) rfl dX5_readName_46 rfl ?_
      refine fr_bipush (v := 20) (by decide) dX5_readName_47 rfl ?_
      refine fr_iload_n (i := 1) (q := 0) rfl dX5_readName_49 rfl ?_
      obtain ⟨v16, I17, L18, hc19, h⟩ := h
      refine fr_callV2 (ν := mu_X5_orderWith) (st2 := [.int v16]) (As := [.int 20, .int v1]) (st := []) (v := (some (.int v16))) (M1 := (Z, I17, L18)) dX5_readName_50 rfl ml_X5_120 mo_X5_orderWith mi_X5_orderWith (ci := 5) rfl rfl k_o (Nat.le_of_ble_eq_true rfl) rfl rfl (Nat.le_of_ble_eq_true rfl) hc19 rfl ?_
      refine fr_pop rfl dX5_readName_53 rfl ?_
      refine fr_aload_n (i := 0) (q := 1) rfl dX5_readName_54 rfl ?_
      obtain ⟨I20, L21, hc22, h⟩ := h
      refine fr_callV2 (ν := mu_X5_next) (st2 := []) (As := []) (st := []) (v := none) (M1 := (Z, I20, L21)) dX5_readName_55 rfl ml_X5_77 mo_X5_next mi_X5_next (ci := 5) rfl rfl k_o (Nat.le_of_ble_eq_true rfl) rfl rfl (Nat.le_of_ble_eq_true rfl) hc22 rfl ?_
      exact fr_vret rfl dX5_readName_58 h.1 h.2
theorem cp_X5_readOpened {d dc : Nat} (hd : dc + 1 ≤ d) (hH : 5 ≤ d) {g : GE} {Z : Zs} {I : Nat → Nat → Int32} {L : Nat → Nat → Int64} {r : Option Value} {M' : Mem} {o : Nat} (k_o : KM Z o 5) (h : (∀ y1 : Int32, y1 = (I o 5) → (∃ (I2 : Nat → Nat → Int32) (L3 : Nat → Nat → Int64), Cl g 3 mu_X5_next [rf g o] (Z, I, L) none (Z, I2, L3) ∧ ((¬ y1 = 31 → ((¬ y1 = 28 → (∃ (I5 : Nat → Nat → Int32) (L6 : Nat → Nat → Int64), Cl g dc mu_X5_readIf [rf g o] (Z, I2, L3) none (Z, I5, L6) ∧ (r = none ∧ M' = (Z, I5, L6)))) ∧ (y1 = 28 → (∃ (I8 : Nat → Nat → Int32) (L9 : Nat → Nat → Int64), Cl g dc mu_X5_readOne [rf g o] (Z, I2, L3) none (Z, I8, L9) ∧ (∃ (I11 : Nat → Nat → Int32) (L12 : Nat → Nat → Int64), Cl g 1 mu_X5_order [rf g o, .int 38] (Z, I8, L9) none (Z, I11, L12) ∧ (r = none ∧ M' = (Z, I11, L12))))))) ∧ (y1 = 31 → (∃ (I14 : Nat → Nat → Int32) (L15 : Nat → Nat → Int64), Cl g dc mu_X5_readSum [rf g o] (Z, I2, L3) none (Z, I14, L15) ∧ (∃ (I17 : Nat → Nat → Int32) (L18 : Nat → Nat → Int64), Cl g 4 mu_X5_take [rf g o, .int 32] (Z, I14, L15) none (Z, I17, L18) ∧ (r = none ∧ M' = (Z, I17, L18))))))))) : Cl g d mu_X5_readOpened [rf g o] (Z, I, L) r M' := by
  refine cl_of (lv := [(0, rf g o)]) (by decide) (Nat.le_of_ble_eq_true rfl) rfl ?_
  refine fr_aload_n (i := 0) (q := 0) rfl dX5_readOpened_0 rfl ?_
  refine fr_getI dX5_readOpened_1 rfl fl_X5_52 k_o ?_
  refine fr_topi (fun y1 hy1 => ?_)
  have h := h y1 hy1
  refine fr_istore_n (i := 1) (lv' := [(1, .int y1), (0, rf g o)]) dX5_readOpened_4 rfl (by decide) rfl ?_
  refine fr_aload_n (i := 0) (q := 1) rfl dX5_readOpened_5 rfl ?_
  obtain ⟨I2, L3, hc4, h⟩ := h
  refine fr_callV2 (ν := mu_X5_next) (st2 := []) (As := []) (st := []) (v := none) (M1 := (Z, I2, L3)) dX5_readOpened_6 rfl ml_X5_77 mo_X5_next mi_X5_next (ci := 5) rfl rfl k_o (Nat.le_trans (Nat.le_of_ble_eq_true rfl) hH) rfl rfl (Nat.le_of_ble_eq_true rfl) hc4 rfl ?_
  refine fr_iload_n (i := 1) (q := 0) rfl dX5_readOpened_9 rfl ?_
  refine fr_bipush (v := 31) (by decide) dX5_readOpened_10 rfl ?_
  refine fr_icmp_ne (tgt := 28) dX5_readOpened_12 (by decide) rfl (fun hc => ?_) (fun hc => ?_)
  · have h := h.1 hc
    refine fr_iload_n (i := 1) (q := 0) rfl dX5_readOpened_28 rfl ?_
    refine fr_bipush (v := 28) (by decide) dX5_readOpened_29 rfl ?_
    refine fr_icmp_ne (tgt := 47) dX5_readOpened_31 (by decide) rfl (fun hc => ?_) (fun hc => ?_)
    · have h := h.1 hc
      refine fr_aload_n (i := 0) (q := 1) rfl dX5_readOpened_47 rfl ?_
      obtain ⟨I5, L6, hc7, h⟩ := h
      refine fr_callV2 (ν := mu_X5_readIf) (st2 := []) (As := []) (st := []) (v := none) (M1 := (Z, I5, L6)) dX5_readOpened_48 rfl ml_X5_124 mo_X5_readIf mi_X5_readIf (ci := 5) rfl rfl k_o hd rfl rfl (Nat.le_of_ble_eq_true rfl) hc7 rfl ?_
      exact fr_vret rfl dX5_readOpened_51 h.1 h.2
    · have h := h.2 hc
      refine fr_aload_n (i := 0) (q := 1) rfl dX5_readOpened_34 rfl ?_
      obtain ⟨I8, L9, hc10, h⟩ := h
      refine fr_callV2 (ν := mu_X5_readOne) (st2 := []) (As := []) (st := []) (v := none) (M1 := (Z, I8, L9)) dX5_readOpened_35 rfl ml_X5_105 mo_X5_readOne mi_X5_readOne (ci := 5) rfl rfl k_o hd rfl rfl (Nat.le_of_ble_eq_true rfl) hc10 rfl ?_
      refine fr_aload_n (i := 0) (q := 1) rfl dX5_readOpened_38 rfl ?_
      refine fr_bipush (v := 38) (by decide) dX5_readOpened_39 rfl ?_
      obtain ⟨I11, L12, hc13, h⟩ := h
      refine fr_callV2 (ν := mu_X5_order) (st2 := []) (As := [.int 38]) (st := []) (v := none) (M1 := (Z, I11, L12)) dX5_readOpened_41 rfl ml_X5_89 mo_X5_order mi_X5_order (ci := 5) rfl rfl k_o (Nat.le_trans (Nat.le_of_ble_eq_true rfl) hH) rfl rfl (Nat.le_of_ble_eq_true rfl) hc13 rfl ?_
      refine fr_goto (n := 51) dX5_readOpened_44 (by decide) ?_
      exact fr_vret rfl dX5_readOpened_51 h.1 h.2
  · have h := h.2 hc
    refine fr_aload_n (i := 0) (q := 1) rfl dX5_readOpened_15 rfl ?_
    obtain ⟨I14, L15, hc16, h⟩ := h
    refine fr_callV2 (ν := mu_X5_readSum) (st2 := []) (As := []) (st := []) (v := none) (M1 := (Z, I14, L15)) dX5_readOpened_16 rfl ml_X5_83 mo_X5_readSum mi_X5_readSum (ci := 5) rfl rfl k_o hd rfl rfl (Nat.le_of_ble_eq_true rfl) hc16 rfl ?_
    refine fr_aload_n (i := 0) (q := 1) rfl dX5_readOpened_19 rfl ?_
    refine fr_bipush (v := 32) (by decide) dX5_readOpened_20 rfl ?_
    obtain ⟨I17, L18, hc19, h⟩ := h
    refine fr_callV2 (ν := mu_X5_take) (st2 := []) (As := [.int 32]) (st := []) (v := none) (M1 := (Z, I17, L18)) dX5_readOpened_22 rfl ml_X5_86 mo_X5_take mi_X5_take (ci := 5) rfl rfl k_o (Nat.le_trans (Nat.le_of_ble_eq_true rfl) hH) rfl rfl (Nat.le_of_ble_eq_true rfl) hc19 rfl ?_
    refine fr_goto (n := 51) dX5_readOpened_25 (by decide) ?_
    exact fr_vret rfl dX5_readOpened_51 h.1 h.2
theorem cp_X5_readIf {d dc : Nat} (hd : dc + 1 ≤ d) (hH : 5 ≤ d) {g : GE} {Z : Zs} {I : Nat → Nat → Int32} {L : Nat → Nat → Int64} {r : Option Value} {M' : Mem} {o : Nat} (k_o : KM Z o 5) (h : (∃ (I1 : Nat → Nat → Int32) (L2 : Nat → Nat → Int64), Cl g dc mu_X5_readEither [rf g o] (Z, I, L) none (Z, I1, L2) ∧ (∃ (I4 : Nat → Nat → Int32) (L5 : Nat → Nat → Int64), Cl g 4 mu_X5_take [rf g o, .int 34] (Z, I1, L2) none (Z, I4, L5) ∧ (∃ (v7 : Int32) (I8 : Nat → Nat → Int32) (L9 : Nat → Nat → Int64), Cl g 2 mu_X5_orderWith [rf g o, .int 34, .int 0] (Z, I4, L5) (some (.int v7)) (Z, I8, L9) ∧ (∃ (I11 : Nat → Nat → Int32) (L12 : Nat → Nat → Int64), Cl g dc mu_X5_readSum [rf g o] (Z, I8, L9) none (Z, I11, L12) ∧ (∃ (I14 : Nat → Nat → Int32) (L15 : Nat → Nat → Int64), Cl g 4 mu_X5_take [rf g o, .int 35] (Z, I11, L12) none (Z, I14, L15) ∧ (∃ (v17 : Int32) (I18 : Nat → Nat → Int32) (L19 : Nat → Nat → Int64), Cl g 2 mu_X5_orderWith [rf g o, .int 35, .int 0] (Z, I14, L15) (some (.int v17)) (Z, I18, L19) ∧ (∃ (I21 : Nat → Nat → Int32) (L22 : Nat → Nat → Int64), Cl g 1 mu_X5_landHere [rf g o, .int v7] (Z, I18, L19) none (Z, I21, L22) ∧ (∃ (I24 : Nat → Nat → Int32) (L25 : Nat → Nat → Int64), Cl g dc mu_X5_readSum [rf g o] (Z, I21, L22) none (Z, I24, L25) ∧ (∃ (I27 : Nat → Nat → Int32) (L28 : Nat → Nat → Int64), Cl g 4 mu_X5_take [rf g o, .int 15] (Z, I24, L25) none (Z, I27, L28) ∧ (∃ (I30 : Nat → Nat → Int32) (L31 : Nat → Nat → Int64), Cl g 1 mu_X5_landHere [rf g o, .int v17] (Z, I27, L28) none (Z, I30, L31) ∧ (r = none ∧ M' = (Z, I30, L31))))))))))))) : Cl g d mu_X5_readIf [rf g o] (Z, I, L) r M' := by
  refine cl_of (lv := [(0, rf g o)]) (by decide) (Nat.le_of_ble_eq_true rfl) rfl ?_
  refine fr_aload_n (i := 0) (q := 0) rfl dX5_readIf_0 rfl ?_
  obtain ⟨I1, L2, hc3, h⟩ := h
  refine fr_callV2 (ν := mu_X5_readEither) (st2 := []) (As := []) (st := []) (v := none) (M1 := (Z, I1, L2)) dX5_readIf_1 rfl ml_X5_80 mo_X5_readEither mi_X5_readEither (ci := 5) rfl rfl k_o hd rfl rfl (Nat.le_of_ble_eq_true rfl) hc3 rfl ?_
  refine fr_aload_n (i := 0) (q := 0) rfl dX5_readIf_4 rfl ?_
  refine fr_bipush (v := 34) (by decide) dX5_readIf_5 rfl ?_
  obtain ⟨I4, L5, hc6, h⟩ := h
  refine fr_callV2 (ν := mu_X5_take) (st2 := []) (As := [.int 34]) (st := []) (v := none) (M1 := (Z, I4, L5)) dX5_readIf_7 rfl ml_X5_86 mo_X5_take mi_X5_take (ci := 5) rfl rfl k_o (Nat.le_trans (Nat.le_of_ble_eq_true rfl) hH) rfl rfl (Nat.le_of_ble_eq_true rfl) hc6 rfl ?_
  refine fr_aload_n (i := 0) (q := 0) rfl dX5_readIf_10 rfl ?_
  refine fr_bipush (v := 34) (by decide) dX5_readIf_11 rfl ?_
  refine fr_iconst (v := 0) (by decide) dX5_readIf_13 rfl ?_
  obtain ⟨v7, I8, L9, hc10, h⟩ := h
  refine fr_callV2 (ν := mu_X5_orderWith) (st2 := [.int v7]) (As := [.int 34, .int 0]) (st := []) (v := (some (.int v7))) (M1 := (Z, I8, L9)) dX5_readIf_14 rfl ml_X5_120 mo_X5_orderWith mi_X5_orderWith (ci := 5) rfl rfl k_o (Nat.le_trans (Nat.le_of_ble_eq_true rfl) hH) rfl rfl (Nat.le_of_ble_eq_true rfl) hc10 rfl ?_
  refine fr_istore_n (i := 1) (lv' := [(1, .int v7), (0, rf g o)]) dX5_readIf_17 rfl (by decide) rfl ?_
  refine fr_aload_n (i := 0) (q := 1) rfl dX5_readIf_18 rfl ?_
  obtain ⟨I11, L12, hc13, h⟩ := h
  refine fr_callV2 (ν := mu_X5_readSum) (st2 := []) (As := []) (st := []) (v := none) (M1 := (Z, I11, L12)) dX5_readIf_19 rfl ml_X5_83 mo_X5_readSum mi_X5_readSum (ci := 5) rfl rfl k_o hd rfl rfl (Nat.le_of_ble_eq_true rfl) hc13 rfl ?_
  refine fr_aload_n (i := 0) (q := 1) rfl dX5_readIf_22 rfl ?_
  refine fr_bipush (v := 35) (by decide) dX5_readIf_23 rfl ?_
  obtain ⟨I14, L15, hc16, h⟩ := h
  refine fr_callV2 (ν := mu_X5_take) (st2 := []) (As := [.int 35]) (st := []) (v := none) (M1 := (Z, I14, L15)) dX5_readIf_25 rfl ml_X5_86 mo_X5_take mi_X5_take (ci := 5) rfl rfl k_o (Nat.le_trans (Nat.le_of_ble_eq_true rfl) hH) rfl rfl (Nat.le_of_ble_eq_true rfl) hc16 rfl ?_
  refine fr_aload_n (i := 0) (q := 1) rfl dX5_readIf_28 rfl ?_
  refine fr_bipush (v := 35) (by decide) dX5_readIf_29 rfl ?_
  refine fr_iconst (v := 0) (by decide) dX5_readIf_31 rfl ?_
  obtain ⟨v17, I18, L19, hc20, h⟩ := h
  refine fr_callV2 (ν := mu_X5_orderWith) (st2 := [.int v17]) (As := [.int 35, .int 0]) (st := []) (v := (some (.int v17))) (M1 := (Z, I18, L19)) dX5_readIf_32 rfl ml_X5_120 mo_X5_orderWith mi_X5_orderWith (ci := 5) rfl rfl k_o (Nat.le_trans (Nat.le_of_ble_eq_true rfl) hH) rfl rfl (Nat.le_of_ble_eq_true rfl) hc20 rfl ?_
  refine fr_istore_n (i := 2) (lv' := [(2, .int v17), (1, .int v7), (0, rf g o)]) dX5_readIf_35 rfl (by decide) rfl ?_
  refine fr_aload_n (i := 0) (q := 2) rfl dX5_readIf_36 rfl ?_
  refine fr_iload_n (i := 1) (q := 1) rfl dX5_readIf_37 rfl ?_
  obtain ⟨I21, L22, hc23, h⟩ := h
  refine fr_callV2 (ν := mu_X5_landHere) (st2 := []) (As := [.int v7]) (st := []) (v := none) (M1 := (Z, I21, L22)) dX5_readIf_38 rfl ml_X5_127 mo_X5_landHere mi_X5_landHere (ci := 5) rfl rfl k_o (Nat.le_trans (Nat.le_of_ble_eq_true rfl) hH) rfl rfl (Nat.le_of_ble_eq_true rfl) hc23 rfl ?_
  refine fr_aload_n (i := 0) (q := 2) rfl dX5_readIf_41 rfl ?_
  obtain ⟨I24, L25, hc26, h⟩ := h
  refine fr_callV2 (ν := mu_X5_readSum) (st2 := []) (As := []) (st := []) (v := none) (M1 := (Z, I24, L25)) dX5_readIf_42 rfl ml_X5_83 mo_X5_readSum mi_X5_readSum (ci := 5) rfl rfl k_o hd rfl rfl (Nat.le_of_ble_eq_true rfl) hc26 rfl ?_
  refine fr_aload_n (i := 0) (q := 2) rfl dX5_readIf_45 rfl ?_
  refine fr_bipush (v := 15) (by decide) dX5_readIf_46 rfl ?_
  obtain ⟨I27, L28, hc29, h⟩ := h
  refine fr_callV2 (ν := mu_X5_take) (st2 := []) (As := [.int 15]) (st := []) (v := none) (M1 := (Z, I27, L28)) dX5_readIf_48 rfl ml_X5_86 mo_X5_take mi_X5_take (ci := 5) rfl rfl k_o (Nat.le_trans (Nat.le_of_ble_eq_true rfl) hH) rfl rfl (Nat.le_of_ble_eq_true rfl) hc29 rfl ?_
  refine fr_aload_n (i := 0) (q := 2) rfl dX5_readIf_51 rfl ?_
  refine fr_iload_n (i := 2) (q := 0) rfl dX5_readIf_52 rfl ?_
  obtain ⟨I30, L31, hc32, h⟩ := h
  refine fr_callV2 (ν := mu_X5_landHere) (st2 := []) (As := [.int v17]) (st := []) (v := none) (M1 := (Z, I30, L31)) dX5_readIf_53 rfl ml_X5_127 mo_X5_landHere mi_X5_landHere (ci := 5) rfl rfl k_o (Nat.le_trans (Nat.le_of_ble_eq_true rfl) hH) rfl rfl (Nat.le_of_ble_eq_true rfl) hc32 rfl ?_
  exact fr_vret rfl dX5_readIf_56 h.1 h.2
theorem cp_X5_opens {g : GE} {Z : Zs} {I : Nat → Nat → Int32} {L : Nat → Nat → Int64} {r : Option Value} {M' : Mem} {o : Nat} (k_o : KM Z o 5) (h : (((I o 7) < 8 → (∀ I1 : Nat → Nat → Int32, I1 = rw1 I o (upd (I o) 7 ((I o 7) + 1)) → (r = some (.int 1) ∧ M' = (Z, I1, L)))) ∧ (¬ (I o 7) < 8 → (∃ (I2 : Nat → Nat → Int32) (L3 : Nat → Nat → Int64), Cl g 3 mu_X5_fail [rf g o, .int 3] (Z, I, L) none (Z, I2, L3) ∧ (r = some (.int 0) ∧ M' = (Z, I2, L3)))))) : Cl g 4 mu_X5_opens [rf g o] (Z, I, L) r M' := by
  refine cl_of (lv := [(0, rf g o)]) (by decide) (Nat.le_of_ble_eq_true rfl) rfl ?_
  refine fr_aload_n (i := 0) (q := 0) rfl dX5_opens_0 rfl ?_
  refine fr_getI dX5_opens_1 rfl fl_X5_55 k_o ?_
  refine fr_bipush (v := 8) (by decide) dX5_opens_4 rfl ?_
  refine fr_icmp_lt (tgt := 16) dX5_opens_6 (by decide) rfl (fun hc => ?_) (fun hc => ?_)
  · have h := h.1 hc
    refine fr_aload_n (i := 0) (q := 0) rfl dX5_opens_16 rfl ?_
    refine fr_dup rfl dX5_opens_17 rfl ?_
    refine fr_getI dX5_opens_18 rfl fl_X5_55 k_o ?_
    refine fr_iconst (v := 1) (by decide) dX5_opens_21 rfl ?_
    refine fr_iadd dX5_opens_22 rfl ?_
    refine fr_putI dX5_opens_23 rfl fp_X5_55 k_o ?_
    refine fr_memI (fun I1 hI1 => ?_)
    have h := h I1 hI1
    refine fr_iconst (v := 1) (by decide) dX5_opens_26 rfl ?_
    exact fr_zret (by decide) rfl dX5_opens_27 h.1 h.2
  · have h := h.2 hc
    refine fr_aload_n (i := 0) (q := 0) rfl dX5_opens_9 rfl ?_
    refine fr_iconst (v := 3) (by decide) dX5_opens_10 rfl ?_
    obtain ⟨I2, L3, hc4, h⟩ := h
    refine fr_callV2 (ν := mu_X5_fail) (st2 := []) (As := [.int 3]) (st := []) (v := none) (M1 := (Z, I2, L3)) dX5_opens_11 rfl ml_X5_70 mo_X5_fail mi_X5_fail (ci := 5) rfl rfl k_o (Nat.le_of_ble_eq_true rfl) rfl rfl (Nat.le_of_ble_eq_true rfl) hc4 rfl ?_
    refine fr_iconst (v := 0) (by decide) dX5_opens_14 rfl ?_
    exact fr_zret (by decide) rfl dX5_opens_15 h.1 h.2
theorem cp_X5_take {g : GE} {Z : Zs} {I : Nat → Nat → Int32} {L : Nat → Nat → Int64} {r : Option Value} {M' : Mem} {o : Nat} {x1 : Int32} (k_o : KM Z o 5) (h : ((¬ (I o 5) = x1 → (∃ (I1 : Nat → Nat → Int32) (L2 : Nat → Nat → Int64), Cl g 3 mu_X5_fail [rf g o, .int 1] (Z, I, L) none (Z, I1, L2) ∧ (r = none ∧ M' = (Z, I1, L2)))) ∧ ((I o 5) = x1 → (∃ (I4 : Nat → Nat → Int32) (L5 : Nat → Nat → Int64), Cl g 3 mu_X5_next [rf g o] (Z, I, L) none (Z, I4, L5) ∧ (r = none ∧ M' = (Z, I4, L5)))))) : Cl g 4 mu_X5_take [rf g o, .int x1] (Z, I, L) r M' := by
  refine cl_of (lv := [(0, rf g o), (1, .int x1)]) (by decide) (Nat.le_of_ble_eq_true rfl) rfl ?_
  refine fr_aload_n (i := 0) (q := 0) rfl dX5_take_0 rfl ?_
  refine fr_getI dX5_take_1 rfl fl_X5_52 k_o ?_
  refine fr_iload_n (i := 1) (q := 1) rfl dX5_take_4 rfl ?_
  refine fr_icmp_ne (tgt := 15) dX5_take_5 (by decide) rfl (fun hc => ?_) (fun hc => ?_)
  · have h := h.1 hc
    refine fr_aload_n (i := 0) (q := 0) rfl dX5_take_15 rfl ?_
    refine fr_iconst (v := 1) (by decide) dX5_take_16 rfl ?_
    obtain ⟨I1, L2, hc3, h⟩ := h
    refine fr_callV2 (ν := mu_X5_fail) (st2 := []) (As := [.int 1]) (st := []) (v := none) (M1 := (Z, I1, L2)) dX5_take_17 rfl ml_X5_70 mo_X5_fail mi_X5_fail (ci := 5) rfl rfl k_o (Nat.le_of_ble_eq_true rfl) rfl rfl (Nat.le_of_ble_eq_true rfl) hc3 rfl ?_
    exact fr_vret rfl dX5_take_20 h.1 h.2
  · have h := h.2 hc
    refine fr_aload_n (i := 0) (q := 0) rfl dX5_take_8 rfl ?_
    obtain ⟨I4, L5, hc6, h⟩ := h
    refine fr_callV2 (ν := mu_X5_next) (st2 := []) (As := []) (st := []) (v := none) (M1 := (Z, I4, L5)) dX5_take_9 rfl ml_X5_77 mo_X5_next mi_X5_next (ci := 5) rfl rfl k_o (Nat.le_of_ble_eq_true rfl) rfl rfl (Nat.le_of_ble_eq_true rfl) hc6 rfl ?_
    refine fr_goto (n := 20) dX5_take_12 (by decide) ?_
    exact fr_vret rfl dX5_take_20 h.1 h.2
theorem cp_X5_next {g : GE} {Z : Zs} {I : Nat → Nat → Int32} {L : Nat → Nat → Int64} {r : Option Value} {M' : Mem} {o : Nat} {o_tokens : Nat} (k_o : KM Z o 5) (r_o_tokens : Z.2.1 o 0 = some o_tokens) (k_o_tokens : KM Z o_tokens 9) (h : ((¬ (I o 8) = 0 → (r = none ∧ M' = (Z, I, L))) ∧ ((I o 8) = 0 → (∀ I1 : Nat → Nat → Int32, I1 = rw1 I o (upd (I o) 4 ((I o 4) + 1)) → (∃ (v2 : Int32), Cl g 2 mu_X9_kindAt [rf g o_tokens, .int (I1 o 4)] (Z, I1, L) (some (.int v2)) (Z, I1, L) ∧ (∀ I4 : Nat → Nat → Int32, I4 = rw1 I1 o (upd (I1 o) 5 v2) → (r = none ∧ M' = (Z, I4, L)))))))) : Cl g 3 mu_X5_next [rf g o] (Z, I, L) r M' := by
  refine cl_of (lv := [(0, rf g o)]) (by decide) (Nat.le_of_ble_eq_true rfl) rfl ?_
  refine fr_aload_n (i := 0) (q := 0) rfl dX5_next_0 rfl ?_
  refine fr_getI dX5_next_1 rfl fl_X5_25 k_o ?_
  refine fr_if_ne (tgt := 32) dX5_next_4 (by decide) rfl (fun hc => ?_) (fun hc => ?_)
  · have h := h.1 hc
    exact fr_vret rfl dX5_next_32 h.1 h.2
  · have h := h.2 hc
    refine fr_aload_n (i := 0) (q := 0) rfl dX5_next_7 rfl ?_
    refine fr_dup rfl dX5_next_8 rfl ?_
    refine fr_getI dX5_next_9 rfl fl_X5_45 k_o ?_
    refine fr_iconst (v := 1) (by decide) dX5_next_12 rfl ?_
    refine fr_iadd dX5_next_13 rfl ?_
    refine fr_putI dX5_next_14 rfl fp_X5_45 k_o ?_
    refine fr_memI (fun I1 hI1 => ?_)
    have h := h I1 hI1
    refine fr_aload_n (i := 0) (q := 0) rfl dX5_next_17 rfl ?_
    refine fr_aload_n (i := 0) (q := 0) rfl dX5_next_18 rfl ?_
    refine fr_getR dX5_next_19 rfl fl_X5_12 k_o r_o_tokens ?_
    refine fr_aload_n (i := 0) (q := 0) rfl dX5_next_22 rfl ?_
    refine fr_getI dX5_next_23 rfl fl_X5_45 k_o ?_
    obtain ⟨v2, hc3, h⟩ := h
    refine fr_callV2 (ν := mu_X9_kindAt) (st2 := [.int v2, rf g o]) (As := [.int (I1 o 4)]) (st := [rf g o]) (v := (some (.int v2))) (M1 := (Z, I1, L)) dX5_next_26 rfl ml_X5_48 mo_X9_kindAt mi_X9_kindAt (ci := 9) rfl rfl k_o_tokens (Nat.le_of_ble_eq_true rfl) rfl rfl (Nat.le_of_ble_eq_true rfl) hc3 rfl ?_
    refine fr_putI dX5_next_29 rfl fp_X5_52 k_o ?_
    refine fr_memI (fun I4 hI4 => ?_)
    have h := h I4 hI4
    exact fr_vret rfl dX5_next_32 h.1 h.2
theorem cp_X5_fail {g : GE} {Z : Zs} {I : Nat → Nat → Int32} {L : Nat → Nat → Int64} {r : Option Value} {M' : Mem} {o : Nat} {x1 : Int32} {o_tokens : Nat} (k_o : KM Z o 5) (r_o_tokens : Z.2.1 o 0 = some o_tokens) (k_o_tokens : KM Z o_tokens 9) (h : ((¬ (I o 8) = 0 → (r = none ∧ M' = (Z, I, L))) ∧ ((I o 8) = 0 → (∀ I1 : Nat → Nat → Int32, I1 = rw1 I o (upd (I o) 8 x1) → (∃ (v2 : Int32), Cl g 2 mu_X9_placeAt [rf g o_tokens, .int (I1 o 4)] (Z, I1, L) (some (.int v2)) (Z, I1, L) ∧ (∀ I4 : Nat → Nat → Int32, I4 = rw1 I1 o (upd (I1 o) 9 v2) → (∀ I5 : Nat → Nat → Int32, I5 = rw1 I4 o (upd (I4 o) 5 36) → (r = none ∧ M' = (Z, I5, L))))))))) : Cl g 3 mu_X5_fail [rf g o, .int x1] (Z, I, L) r M' := by
  refine cl_of (lv := [(0, rf g o), (1, .int x1)]) (by decide) (Nat.le_of_ble_eq_true rfl) rfl ?_
  refine fr_aload_n (i := 0) (q := 0) rfl dX5_fail_0 rfl ?_
  refine fr_getI dX5_fail_1 rfl fl_X5_25 k_o ?_
  refine fr_if_ne (tgt := 33) dX5_fail_4 (by decide) rfl (fun hc => ?_) (fun hc => ?_)
  · have h := h.1 hc
    exact fr_vret rfl dX5_fail_33 h.1 h.2
  · have h := h.2 hc
    refine fr_aload_n (i := 0) (q := 0) rfl dX5_fail_7 rfl ?_
    refine fr_iload_n (i := 1) (q := 1) rfl dX5_fail_8 rfl ?_
    refine fr_putI dX5_fail_9 rfl fp_X5_25 k_o ?_
    refine fr_memI (fun I1 hI1 => ?_)
    have h := h I1 hI1
    refine fr_aload_n (i := 0) (q := 0) rfl dX5_fail_12 rfl ?_
    refine fr_aload_n (i := 0) (q := 0) rfl dX5_fail_13 rfl ?_
    refine fr_getR dX5_fail_14 rfl fl_X5_12 k_o r_o_tokens ?_
    refine fr_aload_n (i := 0) (q := 0) rfl dX5_fail_17 rfl ?_
    refine fr_getI dX5_fail_18 rfl fl_X5_45 k_o ?_
    obtain ⟨v2, hc3, h⟩ := h
    refine fr_callV2 (ν := mu_X9_placeAt) (st2 := [.int v2, rf g o]) (As := [.int (I1 o 4)]) (st := [rf g o]) (v := (some (.int v2))) (M1 := (Z, I1, L)) dX5_fail_21 rfl ml_X5_130 mo_X9_placeAt mi_X9_placeAt (ci := 9) rfl rfl k_o_tokens (Nat.le_of_ble_eq_true rfl) rfl rfl (Nat.le_of_ble_eq_true rfl) hc3 rfl ?_
    refine fr_putI dX5_fail_24 rfl fp_X5_29 k_o ?_
    refine fr_memI (fun I4 hI4 => ?_)
    have h := h I4 hI4
    refine fr_aload_n (i := 0) (q := 0) rfl dX5_fail_27 rfl ?_
    refine fr_bipush (v := 36) (by decide) dX5_fail_28 rfl ?_
    refine fr_putI dX5_fail_30 rfl fp_X5_52 k_o ?_
    refine fr_memI (fun I5 hI5 => ?_)
    have h := h I5 hI5
    exact fr_vret rfl dX5_fail_33 h.1 h.2
theorem cp_X5_order {g : GE} {Z : Zs} {I : Nat → Nat → Int32} {L : Nat → Nat → Int64} {r : Option Value} {M' : Mem} {o : Nat} {x1 : Int32} {o_orders : Nat} (k_o : KM Z o 5) (r_o_orders : Z.2.1 o 1 = some o_orders) (k_o_orders : KM Z o_orders 13) (h : (((nI (Z.2.2.1 o_orders)) ≤ (I o 3) → (r = none ∧ M' = (Z, I, L))) ∧ (¬ (nI (Z.2.2.1 o_orders)) ≤ (I o 3) → (vp_in (I o 3) (Z.2.2.1 o_orders) ∧ (∀ I2 : Nat → Nat → Int32, I2 = rw1 I o_orders (upd (I o_orders) (I o 3).toNatClampNeg x1) → (∀ I3 : Nat → Nat → Int32, I3 = rw1 I2 o (upd (I2 o) 3 ((I2 o 3) + 1)) → (r = none ∧ M' = (Z, I3, L)))))))) : Cl g 1 mu_X5_order [rf g o, .int x1] (Z, I, L) r M' := by
  refine cl_of (lv := [(0, rf g o), (1, .int x1)]) (by decide) (Nat.le_of_ble_eq_true rfl) rfl ?_
  refine fr_aload_n (i := 0) (q := 0) rfl dX5_order_0 rfl ?_
  refine fr_getI dX5_order_1 rfl fl_X5_42 k_o ?_
  refine fr_aload_n (i := 0) (q := 0) rfl dX5_order_4 rfl ?_
  refine fr_getR dX5_order_5 rfl fl_X5_18 k_o r_o_orders ?_
  refine fr_alen dX5_order_8 rfl k_o_orders (Or.inl rfl) ?_
  refine fr_icmp_ge (tgt := 32) dX5_order_9 (by decide) rfl (fun hc => ?_) (fun hc => ?_)
  · have h := h.1 hc
    exact fr_vret rfl dX5_order_32 h.1 h.2
  · have h := h.2 hc
    refine fr_aload_n (i := 0) (q := 0) rfl dX5_order_12 rfl ?_
    refine fr_getR dX5_order_13 rfl fl_X5_18 k_o r_o_orders ?_
    refine fr_aload_n (i := 0) (q := 0) rfl dX5_order_16 rfl ?_
    refine fr_getI dX5_order_17 rfl fl_X5_42 k_o ?_
    refine fr_iload_n (i := 1) (q := 1) rfl dX5_order_20 rfl ?_
    obtain ⟨hz1, h⟩ := h
    refine fr_iast dX5_order_21 rfl k_o_orders hz1 ?_
    refine fr_memI (fun I2 hI2 => ?_)
    have h := h I2 hI2
    refine fr_aload_n (i := 0) (q := 0) rfl dX5_order_22 rfl ?_
    refine fr_dup rfl dX5_order_23 rfl ?_
    refine fr_getI dX5_order_24 rfl fl_X5_42 k_o ?_
    refine fr_iconst (v := 1) (by decide) dX5_order_27 rfl ?_
    refine fr_iadd dX5_order_28 rfl ?_
    refine fr_putI dX5_order_29 rfl fp_X5_42 k_o ?_
    refine fr_memI (fun I3 hI3 => ?_)
    have h := h I3 hI3
    exact fr_vret rfl dX5_order_32 h.1 h.2
theorem cp_X5_orderWith {g : GE} {Z : Zs} {I : Nat → Nat → Int32} {L : Nat → Nat → Int64} {r : Option Value} {M' : Mem} {o : Nat} {x1 : Int32} {x2 : Int32} (k_o : KM Z o 5) (h : (∃ (I1 : Nat → Nat → Int32) (L2 : Nat → Nat → Int64), Cl g 1 mu_X5_order [rf g o, .int x1] (Z, I, L) none (Z, I1, L2) ∧ (∃ (I4 : Nat → Nat → Int32) (L5 : Nat → Nat → Int64), Cl g 1 mu_X5_order [rf g o, .int x2] (Z, I1, L2) none (Z, I4, L5) ∧ (r = some (.int ((I4 o 3) - 1)) ∧ M' = (Z, I4, L5))))) : Cl g 2 mu_X5_orderWith [rf g o, .int x1, .int x2] (Z, I, L) r M' := by
  refine cl_of (lv := [(0, rf g o), (1, .int x1), (2, .int x2)]) (by decide) (Nat.le_of_ble_eq_true rfl) rfl ?_
  refine fr_aload_n (i := 0) (q := 0) rfl dX5_orderWith_0 rfl ?_
  refine fr_iload_n (i := 1) (q := 1) rfl dX5_orderWith_1 rfl ?_
  obtain ⟨I1, L2, hc3, h⟩ := h
  refine fr_callV2 (ν := mu_X5_order) (st2 := []) (As := [.int x1]) (st := []) (v := none) (M1 := (Z, I1, L2)) dX5_orderWith_2 rfl ml_X5_89 mo_X5_order mi_X5_order (ci := 5) rfl rfl k_o (Nat.le_of_ble_eq_true rfl) rfl rfl (Nat.le_of_ble_eq_true rfl) hc3 rfl ?_
  refine fr_aload_n (i := 0) (q := 0) rfl dX5_orderWith_5 rfl ?_
  refine fr_iload_n (i := 2) (q := 2) rfl dX5_orderWith_6 rfl ?_
  obtain ⟨I4, L5, hc6, h⟩ := h
  refine fr_callV2 (ν := mu_X5_order) (st2 := []) (As := [.int x2]) (st := []) (v := none) (M1 := (Z, I4, L5)) dX5_orderWith_7 rfl ml_X5_89 mo_X5_order mi_X5_order (ci := 5) rfl rfl k_o (Nat.le_of_ble_eq_true rfl) rfl rfl (Nat.le_of_ble_eq_true rfl) hc6 rfl ?_
  refine fr_aload_n (i := 0) (q := 0) rfl dX5_orderWith_10 rfl ?_
  refine fr_getI dX5_orderWith_11 rfl fl_X5_42 k_o ?_
  refine fr_iconst (v := 1) (by decide) dX5_orderWith_14 rfl ?_
  refine fr_isub dX5_orderWith_15 rfl ?_
  exact fr_iret rfl dX5_orderWith_16 h.1 h.2
theorem cp_X5_landHere {g : GE} {Z : Zs} {I : Nat → Nat → Int32} {L : Nat → Nat → Int64} {r : Option Value} {M' : Mem} {o : Nat} {x1 : Int32} {o_orders : Nat} (k_o : KM Z o 5) (r_o_orders : Z.2.1 o 1 = some o_orders) (k_o_orders : KM Z o_orders 13) (h : ((x1 < 0 → (r = none ∧ M' = (Z, I, L))) ∧ (¬ x1 < 0 → (((nI (Z.2.2.1 o_orders)) ≤ x1 → (r = none ∧ M' = (Z, I, L))) ∧ (¬ (nI (Z.2.2.1 o_orders)) ≤ x1 → (vp_in x1 (Z.2.2.1 o_orders) ∧ (∀ I2 : Nat → Nat → Int32, I2 = rw1 I o_orders (upd (I o_orders) x1.toNatClampNeg (I o 3)) → (r = none ∧ M' = (Z, I2, L))))))))) : Cl g 1 mu_X5_landHere [rf g o, .int x1] (Z, I, L) r M' := by
  refine cl_of (lv := [(0, rf g o), (1, .int x1)]) (by decide) (Nat.le_of_ble_eq_true rfl) rfl ?_
  refine fr_iload_n (i := 1) (q := 1) rfl dX5_landHere_0 rfl ?_
  refine fr_if_lt (tgt := 23) dX5_landHere_1 (by decide) rfl (fun hc => ?_) (fun hc => ?_)
  · have h := h.1 hc
    exact fr_vret rfl dX5_landHere_23 h.1 h.2
  · have h := h.2 hc
    refine fr_iload_n (i := 1) (q := 1) rfl dX5_landHere_4 rfl ?_
    refine fr_aload_n (i := 0) (q := 0) rfl dX5_landHere_5 rfl ?_
    refine fr_getR dX5_landHere_6 rfl fl_X5_18 k_o r_o_orders ?_
    refine fr_alen dX5_landHere_9 rfl k_o_orders (Or.inl rfl) ?_
    refine fr_icmp_ge (tgt := 23) dX5_landHere_10 (by decide) rfl (fun hc => ?_) (fun hc => ?_)
    · have h := h.1 hc
      exact fr_vret rfl dX5_landHere_23 h.1 h.2
    · have h := h.2 hc
      refine fr_aload_n (i := 0) (q := 0) rfl dX5_landHere_13 rfl ?_
      refine fr_getR dX5_landHere_14 rfl fl_X5_18 k_o r_o_orders ?_
      refine fr_iload_n (i := 1) (q := 1) rfl dX5_landHere_17 rfl ?_
      refine fr_aload_n (i := 0) (q := 0) rfl dX5_landHere_18 rfl ?_
      refine fr_getI dX5_landHere_19 rfl fl_X5_42 k_o ?_
      obtain ⟨hz1, h⟩ := h
      refine fr_iast dX5_landHere_22 rfl k_o_orders hz1 ?_
      refine fr_memI (fun I2 hI2 => ?_)
      have h := h I2 hI2
      exact fr_vret rfl dX5_landHere_23 h.1 h.2
