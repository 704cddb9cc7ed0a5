theorem cp_X12_sumOf {g : GE} {Z : Zs} {I : Nat → Nat → Int32} {L : Nat → Nat → Int64} {r : Option Value} {M' : Mem} {x0 : Int32} {x1 : Int32} {x2 : Int32}  (h : (r = some (.int (((((x0 * 101) + x1) * 101) + x2) &&& 4095)) ∧ M' = (Z, I, L))) : Cl g 1 mu_X12_sumOf [.int x0, .int x1, .int x2] (Z, I, L) r M' := by
  refine cl_of (lv := [(0, .int x0), (1, .int x1), (2, .int x2)]) (by decide) (Nat.le_of_ble_eq_true rfl) rfl ?_
  refine fr_iload_n (i := 0) (q := 0) rfl dX12_sumOf_0 rfl ?_
  refine fr_bipush (v := 101) (by decide) dX12_sumOf_1 rfl ?_
  refine fr_imul dX12_sumOf_3 rfl ?_
  refine fr_iload_n (i := 1) (q := 1) rfl dX12_sumOf_4 rfl ?_
  refine fr_iadd dX12_sumOf_5 rfl ?_
  refine fr_bipush (v := 101) (by decide) dX12_sumOf_6 rfl ?_
  refine fr_imul dX12_sumOf_8 rfl ?_
  refine fr_iload_n (i := 2) (q := 2) rfl dX12_sumOf_9 rfl ?_
  refine fr_iadd dX12_sumOf_10 rfl ?_
  refine fr_sipush (v := 4095) (by decide) dX12_sumOf_11 rfl ?_
  refine fr_iand dX12_sumOf_14 rfl ?_
  exact fr_iret rfl dX12_sumOf_15 h.1 h.2
abbrev Lp_X12_isKept_17 (g : GE) (d : Nat) (o : Nat) (u1 : Int32) (u2 : Int32) (u3 : Int32) (u4 : Int32) (u5 : Int32) (u6 : Int32) (u7 : Int32) (M : Mem) (r : Option Value) (M' : Mem) : Prop := Fr g d mu_X12_isKept 17 [(0, rf g o), (1, .int u1), (2, .int u2), (3, .int u3), (4, .int u4), (5, .int u5), (6, .int u6), (7, .int u7)] [] M r M'
theorem cp_X12_isKept {g : GE} {Z : Zs} {I : Nat → Nat → Int32} {L : Nat → Nat → Int64} {r : Option Value} {M' : Mem} {o : Nat} {x1 : Int32} {x2 : Int32} {x3 : Int32} {x4 : Int32} {x5 : Int32} {o_chains : Nat} (k_o : KM Z o 12) (r_o_chains : Z.2.1 o 32 = some o_chains) (k_o_chains : KM Z o_chains 13) (h : (∃ (v1 : Int32), Cl g 1 mu_X12_sumOf [.int x1, .int x2, .int x3] (Z, I, L) (some (.int v1)) (Z, I, L) ∧ (vp_in v1 (Z.2.2.1 o_chains) ∧ (∀ y4 : Int32, y4 = (I o_chains v1.toNatClampNeg) → Lp_X12_isKept_17 g 2 o x1 x2 x3 x4 x5 v1 y4 (Z, I, L) r M')))) : Cl g 2 mu_X12_isKept [rf g o, .int x1, .int x2, .int x3, .int x4, .int x5] (Z, I, L) r M' := by
  refine cl_of (lv := [(0, rf g o), (1, .int x1), (2, .int x2), (3, .int x3), (4, .int x4), (5, .int x5)]) (by decide) (Nat.le_of_ble_eq_true rfl) rfl ?_
  refine fr_iload_n (i := 1) (q := 1) rfl dX12_isKept_0 rfl ?_
  refine fr_iload_n (i := 2) (q := 2) rfl dX12_isKept_1 rfl ?_
  refine fr_iload_n (i := 3) (q := 3) rfl dX12_isKept_2 rfl ?_
  obtain ⟨v1, hc2, h⟩ := h
  refine fr_callS2 (ν := mu_X12_sumOf) (st2 := [.int v1]) (As := [.int x1, .int x2, .int x3]) (st := []) (v := (some (.int v1))) (M1 := (Z, I, L)) dX12_isKept_3 rfl ml_X12_310 mo_X12_sumOf ms_X12_sumOf (Nat.le_of_ble_eq_true rfl) rfl rfl (Nat.le_of_ble_eq_true rfl) hc2 rfl ?_
  refine fr_istore (lv' := [(6, .int v1), (0, rf g o), (1, .int x1), (2, .int x2), (3, .int x3), (4, .int x4), (5, .int x5)]) dX12_isKept_6 rfl (by decide) rfl ?_
  refine fr_aload_n (i := 0) (q := 1) rfl dX12_isKept_8 rfl ?_
  refine fr_getR dX12_isKept_9 rfl fl_X12_58 k_o r_o_chains ?_
  refine fr_iload (q := 0) rfl dX12_isKept_12 rfl ?_
  obtain ⟨hz3, h⟩ := h
  refine fr_iald dX12_isKept_14 rfl k_o_chains hz3 ?_
  refine fr_topi (fun y4 hy4 => ?_)
  have h := h y4 hy4
  refine fr_istore (lv' := [(7, .int y4), (6, .int v1), (0, rf g o), (1, .int x1), (2, .int x2), (3, .int x3), (4, .int x4), (5, .int x5)]) dX12_isKept_15 rfl (by decide) rfl ?_
  exact fr_sub [2, 3, 4, 5, 6, 7, 1, 0] rfl h
theorem wp_X12_isKept_17 {g : GE} {Z : Zs} {I : Nat → Nat → Int32} {L : Nat → Nat → Int64} {r : Option Value} {M' : Mem} {o : Nat} {u1 : Int32} {u2 : Int32} {u3 : Int32} {u4 : Int32} {u5 : Int32} {u6 : Int32} {u7 : Int32} {o_poses : Nat} {o_cameFrom : Nat} {o_cameBy : Nat} {o_chain : Nat} {o_chains : Nat} (k_o : KM Z o 12) (r_o_poses : Z.2.1 o 28 = some o_poses) (k_o_poses : KM Z o_poses 13) (r_o_cameFrom : Z.2.1 o 29 = some o_cameFrom) (k_o_cameFrom : KM Z o_cameFrom 13) (r_o_cameBy : Z.2.1 o 30 = some o_cameBy) (k_o_cameBy : KM Z o_cameBy 13) (r_o_chain : Z.2.1 o 31 = some o_chain) (k_o_chain : KM Z o_chain 13) (r_o_chains : Z.2.1 o 32 = some o_chains) (k_o_chains : KM Z o_chains 13) (h : ((u7 < 0 → ((¬ (I o 35) = 3000 → (vp_in (3 * (I o 35)) (Z.2.2.1 o_poses) ∧ (∀ I2 : Nat → Nat → Int32, I2 = rw1 I o_poses (upd (I o_poses) (3 * (I o 35)).toNatClampNeg u1) → (vp_in ((3 * (I2 o 35)) + 1) (Z.2.2.1 o_poses) ∧ (∀ I4 : Nat → Nat → Int32, I4 = rw1 I2 o_poses (upd (I2 o_poses) ((3 * (I2 o 35)) + 1).toNatClampNeg u2) → (vp_in ((3 * (I4 o 35)) + 2) (Z.2.2.1 o_poses) ∧ (∀ I6 : Nat → Nat → Int32, I6 = rw1 I4 o_poses (upd (I4 o_poses) ((3 * (I4 o 35)) + 2).toNatClampNeg u3) → (vp_in (I6 o 35) (Z.2.2.1 o_cameFrom) ∧ (∀ I8 : Nat → Nat → Int32, I8 = rw1 I6 o_cameFrom (upd (I6 o_cameFrom) (I6 o 35).toNatClampNeg u4) → (vp_in (I8 o 35) (Z.2.2.1 o_cameBy) ∧ (∀ I10 : Nat → Nat → Int32, I10 = rw1 I8 o_cameBy (upd (I8 o_cameBy) (I8 o 35).toNatClampNeg u5) → (vp_in u6 (Z.2.2.1 o_chains) ∧ (vp_in (I10 o 35) (Z.2.2.1 o_chain) ∧ (∀ I13 : Nat → Nat → Int32, I13 = rw1 I10 o_chain (upd (I10 o_chain) (I10 o 35).toNatClampNeg (I10 o_chains u6.toNatClampNeg)) → (vp_in u6 (Z.2.2.1 o_chains) ∧ (∀ I15 : Nat → Nat → Int32, I15 = rw1 I13 o_chains (upd (I13 o_chains) u6.toNatClampNeg (I13 o 35)) → (∀ I16 : Nat → Nat → Int32, I16 = rw1 I15 o (upd (I15 o) 35 ((I15 o 35) + 1)) → (r = some (.int 1) ∧ M' = (Z, I16, L))))))))))))))))))) ∧ ((I o 35) = 3000 → (r = some (.int 0) ∧ M' = (Z, I, L))))) ∧ (¬ u7 < 0 → (vp_in (3 * u7) (Z.2.2.1 o_poses) ∧ ((¬ (I o_poses (3 * u7).toNatClampNeg) = u1 → (vp_in u7 (Z.2.2.1 o_chain) ∧ (∀ y19 : Int32, y19 = (I o_chain u7.toNatClampNeg) → Lp_X12_isKept_17 g 2 o u1 u2 u3 u4 u5 u6 y19 (Z, I, L) r M'))) ∧ ((I o_poses (3 * u7).toNatClampNeg) = u1 → (vp_in ((3 * u7) + 1) (Z.2.2.1 o_poses) ∧ ((¬ (I o_poses ((3 * u7) + 1).toNatClampNeg) = u2 → (vp_in u7 (Z.2.2.1 o_chain) ∧ (∀ y22 : Int32, y22 = (I o_chain u7.toNatClampNeg) → Lp_X12_isKept_17 g 2 o u1 u2 u3 u4 u5 u6 y22 (Z, I, L) r M'))) ∧ ((I o_poses ((3 * u7) + 1).toNatClampNeg) = u2 → (vp_in ((3 * u7) + 2) (Z.2.2.1 o_poses) ∧ ((¬ (I o_poses ((3 * u7) + 2).toNatClampNeg) = u3 → (vp_in u7 (Z.2.2.1 o_chain) ∧ (∀ y25 : Int32, y25 = (I o_chain u7.toNatClampNeg) → Lp_X12_isKept_17 g 2 o u1 u2 u3 u4 u5 u6 y25 (Z, I, L) r M'))) ∧ ((I o_poses ((3 * u7) + 2).toNatClampNeg) = u3 → (r = some (.int 1) ∧ M' = (Z, I, L)))))))))))))) : Lp_X12_isKept_17 g 2 o u1 u2 u3 u4 u5 u6 u7 (Z, I, L) r M' := by
  refine fr_iload (q := 7) rfl dX12_isKept_17 rfl ?_
  refine fr_if_lt (tgt := 79) dX12_isKept_19 (by decide) rfl (fun hc => ?_) (fun hc => ?_)
  · have h := h.1 hc
    refine fr_aload_n (i := 0) (q := 0) rfl dX12_isKept_79 rfl ?_
    refine fr_getI dX12_isKept_80 rfl fl_X12_313 k_o ?_
    refine fr_sipush (v := 3000) (by decide) dX12_isKept_83 rfl ?_
    refine fr_icmp_ne (tgt := 91) dX12_isKept_86 (by decide) rfl (fun hc => ?_) (fun hc => ?_)
    · have h := h.1 hc
      refine fr_aload_n (i := 0) (q := 0) rfl dX12_isKept_91 rfl ?_
      refine fr_getR dX12_isKept_92 rfl fl_X12_46 k_o r_o_poses ?_
      refine fr_iconst (v := 3) (by decide) dX12_isKept_95 rfl ?_
      refine fr_aload_n (i := 0) (q := 0) rfl dX12_isKept_96 rfl ?_
      refine fr_getI dX12_isKept_97 rfl fl_X12_313 k_o ?_
      refine fr_imul dX12_isKept_100 rfl ?_
      refine fr_iload_n (i := 1) (q := 1) rfl dX12_isKept_101 rfl ?_
      obtain ⟨hz1, h⟩ := h
      refine fr_iast dX12_isKept_102 rfl k_o_poses hz1 ?_
      refine fr_memI (fun I2 hI2 => ?_)
      have h := h I2 hI2
      refine fr_aload_n (i := 0) (q := 0) rfl dX12_isKept_103 rfl ?_
      refine fr_getR dX12_isKept_104 rfl fl_X12_46 k_o r_o_poses ?_
      refine fr_iconst (v := 3) (by decide) dX12_isKept_107 rfl ?_
      refine fr_aload_n (i := 0) (q := 0) rfl dX12_isKept_108 rfl ?_
      refine fr_getI dX12_isKept_109 rfl fl_X12_313 k_o ?_
      refine fr_imul dX12_isKept_112 rfl ?_
      refine fr_iconst (v := 1) (by decide) dX12_isKept_113 rfl ?_
      refine fr_iadd dX12_isKept_114 rfl ?_
      refine fr_iload_n (i := 2) (q := 2) rfl dX12_isKept_115 rfl ?_
      obtain ⟨hz3, h⟩ := h
      refine fr_iast dX12_isKept_116 rfl k_o_poses hz3 ?_
      refine fr_memI (fun I4 hI4 => ?_)
      have h := h I4 hI4
      refine fr_aload_n (i := 0) (q := 0) rfl dX12_isKept_117 rfl ?_
      refine fr_getR dX12_isKept_118 rfl fl_X12_46 k_o r_o_poses ?_
      refine fr_iconst (v := 3) (by decide) dX12_isKept_121 rfl ?_
      refine fr_aload_n (i := 0) (q := 0) rfl dX12_isKept_122 rfl ?_
      refine fr_getI dX12_isKept_123 rfl fl_X12_313 k_o ?_
      refine fr_imul dX12_isKept_126 rfl ?_
      refine fr_iconst (v := 2) (by decide) dX12_isKept_127 rfl ?_
      refine fr_iadd dX12_isKept_128 rfl ?_
      refine fr_iload_n (i := 3) (q := 3) rfl dX12_isKept_129 rfl ?_
      obtain ⟨hz5, h⟩ := h
      refine fr_iast dX12_isKept_130 rfl k_o_poses hz5 ?_
      refine fr_memI (fun I6 hI6 => ?_)
      have h := h I6 hI6
      refine fr_aload_n (i := 0) (q := 0) rfl dX12_isKept_131 rfl ?_
      refine fr_getR dX12_isKept_132 rfl fl_X12_49 k_o r_o_cameFrom ?_
      refine fr_aload_n (i := 0) (q := 0) rfl dX12_isKept_135 rfl ?_
      refine fr_getI dX12_isKept_136 rfl fl_X12_313 k_o ?_
      refine fr_iload (q := 4) rfl dX12_isKept_139 rfl ?_
      obtain ⟨hz7, h⟩ := h
      refine fr_iast dX12_isKept_141 rfl k_o_cameFrom hz7 ?_
      refine fr_memI (fun I8 hI8 => ?_)
      have h := h I8 hI8
      refine fr_aload_n (i := 0) (q := 0) rfl dX12_isKept_142 rfl ?_
      refine fr_getR dX12_isKept_143 rfl fl_X12_52 k_o r_o_cameBy ?_
      refine fr_aload_n (i := 0) (q := 0) rfl dX12_isKept_146 rfl ?_
      refine fr_getI dX12_isKept_147 rfl fl_X12_313 k_o ?_
      refine fr_iload (q := 5) rfl dX12_isKept_150 rfl ?_
      obtain ⟨hz9, h⟩ := h
      refine fr_iast dX12_isKept_152 rfl k_o_cameBy hz9 ?_
      refine fr_memI (fun I10 hI10 => ?_)
      have h := h I10 hI10
      refine fr_aload_n (i := 0) (q := 0) rfl dX12_isKept_153 rfl ?_
      refine fr_getR dX12_isKept_154 rfl fl_X12_55 k_o r_o_chain ?_
      refine fr_aload_n (i := 0) (q := 0) rfl dX12_isKept_157 rfl ?_
      refine fr_getI dX12_isKept_158 rfl fl_X12_313 k_o ?_
      refine fr_aload_n (i := 0) (q := 0) rfl dX12_isKept_161 rfl ?_
      refine fr_getR dX12_isKept_162 rfl fl_X12_58 k_o r_o_chains ?_
      refine fr_iload (q := 6) rfl dX12_isKept_165 rfl ?_
      obtain ⟨hz11, h⟩ := h
      refine fr_iald dX12_isKept_167 rfl k_o_chains hz11 ?_
      obtain ⟨hz12, h⟩ := h
      refine fr_iast dX12_isKept_168 rfl k_o_chain hz12 ?_
      refine fr_memI (fun I13 hI13 => ?_)
      have h := h I13 hI13
      refine fr_aload_n (i := 0) (q := 0) rfl dX12_isKept_169 rfl ?_
      refine fr_getR dX12_isKept_170 rfl fl_X12_58 k_o r_o_chains ?_
      refine fr_iload (q := 6) rfl dX12_isKept_173 rfl ?_
      refine fr_aload_n (i := 0) (q := 0) rfl dX12_isKept_175 rfl ?_
      refine fr_getI dX12_isKept_176 rfl fl_X12_313 k_o ?_
      obtain ⟨hz14, h⟩ := h
      refine fr_iast dX12_isKept_179 rfl k_o_chains hz14 ?_
      refine fr_memI (fun I15 hI15 => ?_)
      have h := h I15 hI15
      refine fr_aload_n (i := 0) (q := 0) rfl dX12_isKept_180 rfl ?_
      refine fr_dup rfl dX12_isKept_181 rfl ?_
      refine fr_getI dX12_isKept_182 rfl fl_X12_313 k_o ?_
      refine fr_iconst (v := 1) (by decide) dX12_isKept_185 rfl ?_
      refine fr_iadd dX12_isKept_186 rfl ?_
      refine fr_putI dX12_isKept_187 rfl fp_X12_313 k_o ?_
      refine fr_memI (fun I16 hI16 => ?_)
      have h := h I16 hI16
      refine fr_iconst (v := 1) (by decide) dX12_isKept_190 rfl ?_
      exact fr_zret (by decide) rfl dX12_isKept_191 h.1 h.2
    · have h := h.2 hc
      refine fr_iconst (v := 0) (by decide) dX12_isKept_89 rfl ?_
      exact fr_zret (by decide) rfl dX12_isKept_90 h.1 h.2
  · have h := h.2 hc
    refine fr_aload_n (i := 0) (q := 0) rfl dX12_isKept_22 rfl ?_
    refine fr_getR dX12_isKept_23 rfl fl_X12_46 k_o r_o_poses ?_
    refine fr_iconst (v := 3) (by decide) dX12_isKept_26 rfl ?_
    refine fr_iload (q := 7) rfl dX12_isKept_27 rfl ?_
    refine fr_imul dX12_isKept_29 rfl ?_
    obtain ⟨hz17, h⟩ := h
    refine fr_iald dX12_isKept_30 rfl k_o_poses hz17 ?_
    refine fr_iload_n (i := 1) (q := 1) rfl dX12_isKept_31 rfl ?_
    refine fr_icmp_ne (tgt := 67) dX12_isKept_32 (by decide) rfl (fun hc => ?_) (fun hc => ?_)
    · have h := h.1 hc
      refine fr_aload_n (i := 0) (q := 0) rfl dX12_isKept_67 rfl ?_
      refine fr_getR dX12_isKept_68 rfl fl_X12_55 k_o r_o_chain ?_
      refine fr_iload (q := 7) rfl dX12_isKept_71 rfl ?_
      obtain ⟨hz18, h⟩ := h
      refine fr_iald dX12_isKept_73 rfl k_o_chain hz18 ?_
      refine fr_topi (fun y19 hy19 => ?_)
      have h := h y19 hy19
      refine fr_istore (lv' := [(7, .int y19), (0, rf g o), (1, .int u1), (2, .int u2), (3, .int u3), (4, .int u4), (5, .int u5), (6, .int u6)]) dX12_isKept_74 rfl (by decide) rfl ?_
      refine fr_goto (n := 17) dX12_isKept_76 (by decide) ?_
      exact fr_sub [1, 2, 3, 4, 5, 6, 7, 0] rfl h
    · have h := h.2 hc
      refine fr_aload_n (i := 0) (q := 0) rfl dX12_isKept_35 rfl ?_
      refine fr_getR dX12_isKept_36 rfl fl_X12_46 k_o r_o_poses ?_
      refine fr_iconst (v := 3) (by decide) dX12_isKept_39 rfl ?_
      refine fr_iload (q := 7) rfl dX12_isKept_40 rfl ?_
      refine fr_imul dX12_isKept_42 rfl ?_
      refine fr_iconst (v := 1) (by decide) dX12_isKept_43 rfl ?_
      refine fr_iadd dX12_isKept_44 rfl ?_
      obtain ⟨hz20, h⟩ := h
      refine fr_iald dX12_isKept_45 rfl k_o_poses hz20 ?_
      refine fr_iload_n (i := 2) (q := 2) rfl dX12_isKept_46 rfl ?_
      refine fr_icmp_ne (tgt := 67) dX12_isKept_47 (by decide) rfl (fun hc => ?_) (fun hc => ?_)
      · have h := h.1 hc
        refine fr_aload_n (i := 0) (q := 0) rfl dX12_isKept_67 rfl ?_
        refine fr_getR dX12_isKept_68 rfl fl_X12_55 k_o r_o_chain ?_
        refine fr_iload (q := 7) rfl dX12_isKept_71 rfl ?_
        obtain ⟨hz21, h⟩ := h
        refine fr_iald dX12_isKept_73 rfl k_o_chain hz21 ?_
        refine fr_topi (fun y22 hy22 => ?_)
        have h := h y22 hy22
        refine fr_istore (lv' := [(7, .int y22), (0, rf g o), (1, .int u1), (2, .int u2), (3, .int u3), (4, .int u4), (5, .int u5), (6, .int u6)]) dX12_isKept_74 rfl (by decide) rfl ?_
        refine fr_goto (n := 17) dX12_isKept_76 (by decide) ?_
        exact fr_sub [1, 2, 3, 4, 5, 6, 7, 0] rfl h
      · have h := h.2 hc
        refine fr_aload_n (i := 0) (q := 0) rfl dX12_isKept_50 rfl ?_
        refine fr_getR dX12_isKept_51 rfl fl_X12_46 k_o r_o_poses ?_
        refine fr_iconst (v := 3) (by decide) dX12_isKept_54 rfl ?_
        refine fr_iload (q := 7) rfl dX12_isKept_55 rfl ?_
        refine fr_imul dX12_isKept_57 rfl ?_
        refine fr_iconst (v := 2) (by decide) dX12_isKept_58 rfl ?_
        refine fr_iadd dX12_isKept_59 rfl ?_
        obtain ⟨hz23, h⟩ := h
        refine fr_iald dX12_isKept_60 rfl k_o_poses hz23 ?_
        refine fr_iload_n (i := 3) (q := 3) rfl dX12_isKept_61 rfl ?_
        refine fr_icmp_ne (tgt := 67) dX12_isKept_62 (by decide) rfl (fun hc => ?_) (fun hc => ?_)
        · have h := h.1 hc
          refine fr_aload_n (i := 0) (q := 0) rfl dX12_isKept_67 rfl ?_
          refine fr_getR dX12_isKept_68 rfl fl_X12_55 k_o r_o_chain ?_
          refine fr_iload (q := 7) rfl dX12_isKept_71 rfl ?_
          obtain ⟨hz24, h⟩ := h
          refine fr_iald dX12_isKept_73 rfl k_o_chain hz24 ?_
          refine fr_topi (fun y25 hy25 => ?_)
          have h := h y25 hy25
          refine fr_istore (lv' := [(7, .int y25), (0, rf g o), (1, .int u1), (2, .int u2), (3, .int u3), (4, .int u4), (5, .int u5), (6, .int u6)]) dX12_isKept_74 rfl (by decide) rfl ?_
          refine fr_goto (n := 17) dX12_isKept_76 (by decide) ?_
          exact fr_sub [1, 2, 3, 4, 5, 6, 7, 0] rfl h
        · have h := h.2 hc
          refine fr_iconst (v := 1) (by decide) dX12_isKept_65 rfl ?_
          exact fr_zret (by decide) rfl dX12_isKept_66 h.1 h.2
theorem cp_X12_next {g : GE} {Z : Zs} {I : Nat → Nat → Int32} {L : Nat → Nat → Int64} {r : Option Value} {M' : Mem} {o : Nat} {x1 : Int32} {x2 : Int32} {x3 : Int32} {o_habits : Nat} {o_poses : Nat} (k_o : KM Z o 12) (r_o_habits : Z.2.1 o 33 = some o_habits) (k_o_habits : KM Z o_habits 13) (r_o_poses : Z.2.1 o 28 = some o_poses) (k_o_poses : KM Z o_poses 13) (h : (((I o 34) ≤ x2 → (r = some (.int 0) ∧ M' = (Z, I, L))) ∧ (¬ (I o 34) ≤ x2 → (vp_in x2 (Z.2.2.1 o_habits) ∧ (vp_in ((3 * x1) + x2) (Z.2.2.1 o_poses) ∧ (∃ (v3 : Int32), Cl g 2 mu_X12_then [rf g o, .int (I o_habits x2.toNatClampNeg), .int (I o_poses ((3 * x1) + x2).toNatClampNeg), .int x3] (Z, I, L) (some (.int v3)) (Z, I, L) ∧ (r = some (.int v3) ∧ M' = (Z, I, L)))))))) : Cl g 3 mu_X12_next [rf g o, .int x1, .int x2, .int x3] (Z, I, L) r M' := by
  refine cl_of (lv := [(0, rf g o), (1, .int x1), (2, .int x2), (3, .int x3)]) (by decide) (Nat.le_of_ble_eq_true rfl) rfl ?_
  refine fr_iload_n (i := 2) (q := 2) rfl dX12_next_0 rfl ?_
  refine fr_aload_n (i := 0) (q := 0) rfl dX12_next_1 rfl ?_
  refine fr_getI dX12_next_2 rfl fl_X12_316 k_o ?_
  refine fr_icmp_ge (tgt := 32) dX12_next_5 (by decide) rfl (fun hc => ?_) (fun hc => ?_)
  · have h := h.1 hc
    refine fr_iconst (v := 0) (by decide) dX12_next_32 rfl ?_
    exact fr_iret rfl dX12_next_33 h.1 h.2
  · have h := h.2 hc
    refine fr_aload_n (i := 0) (q := 0) rfl dX12_next_8 rfl ?_
    refine fr_aload_n (i := 0) (q := 0) rfl dX12_next_9 rfl ?_
    refine fr_getR dX12_next_10 rfl fl_X12_61 k_o r_o_habits ?_
    refine fr_iload_n (i := 2) (q := 2) rfl dX12_next_13 rfl ?_
    obtain ⟨hz1, h⟩ := h
    refine fr_iald dX12_next_14 rfl k_o_habits hz1 ?_
    refine fr_aload_n (i := 0) (q := 0) rfl dX12_next_15 rfl ?_
    refine fr_getR dX12_next_16 rfl fl_X12_46 k_o r_o_poses ?_
    refine fr_iconst (v := 3) (by decide) dX12_next_19 rfl ?_
    refine fr_iload_n (i := 1) (q := 1) rfl dX12_next_20 rfl ?_
    refine fr_imul dX12_next_21 rfl ?_
    refine fr_iload_n (i := 2) (q := 2) rfl dX12_next_22 rfl ?_
    refine fr_iadd dX12_next_23 rfl ?_
    obtain ⟨hz2, h⟩ := h
    refine fr_iald dX12_next_24 rfl k_o_poses hz2 ?_
    refine fr_iload_n (i := 3) (q := 3) rfl dX12_next_25 rfl ?_
    obtain ⟨v3, hc4, h⟩ := h
    refine fr_callV2 (ν := mu_X12_then) (st2 := [.int v3]) (As := [.int (I o_habits x2.toNatClampNeg), .int (I o_poses ((3 * x1) + x2).toNatClampNeg), .int x3]) (st := []) (v := (some (.int v3))) (M1 := (Z, I, L)) dX12_next_26 rfl ml_X12_319 mo_X12_then mi_X12_then (ci := 12) rfl rfl k_o (Nat.le_of_ble_eq_true rfl) rfl rfl (Nat.le_of_ble_eq_true rfl) hc4 rfl ?_
    refine fr_goto (n := 33) dX12_next_29 (by decide) ?_
    exact fr_iret rfl dX12_next_33 h.1 h.2
abbrev Lp_X12_isSought_33 (g : GE) (d : Nat) (o : Nat) (u1 : Int32) (u2 : Int32) (u3 : Int32) (M : Mem) (r : Option Value) (M' : Mem) : Prop := Fr g d mu_X12_isSought 33 [(0, rf g o), (1, .int u1), (2, .int u2), (3, .int u3)] [] M r M'
theorem cp_X12_isSought {g : GE} {Z : Zs} {I : Nat → Nat → Int32} {L : Nat → Nat → Int64} {r : Option Value} {M' : Mem} {o : Nat} {x1 : Int32} {x2 : Int32} {o_poses : Nat} (k_o : KM Z o 12) (r_o_poses : Z.2.1 o 28 = some o_poses) (k_o_poses : KM Z o_poses 13) (h : ((0 ≤ x2 → Lp_X12_isSought_33 g 1 o x1 x2 0 (Z, I, L) r M') ∧ (¬ 0 ≤ x2 → (vp_in (3 * x1) (Z.2.2.1 o_poses) ∧ (vp_in ((3 * x1) + 1) (Z.2.2.1 o_poses) ∧ (((I o_poses (3 * x1).toNatClampNeg) = (I o_poses ((3 * x1) + 1).toNatClampNeg) → (r = some (.int 0) ∧ M' = (Z, I, L))) ∧ (¬ (I o_poses (3 * x1).toNatClampNeg) = (I o_poses ((3 * x1) + 1).toNatClampNeg) → (r = some (.int 1) ∧ M' = (Z, I, L))))))))) : Cl g 1 mu_X12_isSought [rf g o, .int x1, .int x2] (Z, I, L) r M' := by
  refine cl_of (lv := [(0, rf g o), (1, .int x1), (2, .int x2)]) (by decide) (Nat.le_of_ble_eq_true rfl) rfl ?_
  refine fr_iload_n (i := 2) (q := 2) rfl dX12_isSought_0 rfl ?_
  refine fr_if_ge (tgt := 31) dX12_isSought_1 (by decide) rfl (fun hc => ?_) (fun hc => ?_)
  · have h := h.1 hc
    refine fr_iconst (v := 0) (by decide) dX12_isSought_31 rfl ?_
    refine fr_istore_n (i := 3) (lv' := [(3, .int 0), (0, rf g o), (1, .int x1), (2, .int x2)]) dX12_isSought_32 rfl (by decide) rfl ?_
    exact fr_sub [1, 2, 3, 0] rfl h
  · have h := h.2 hc
    refine fr_aload_n (i := 0) (q := 0) rfl dX12_isSought_4 rfl ?_
    refine fr_getR dX12_isSought_5 rfl fl_X12_46 k_o r_o_poses ?_
    refine fr_iconst (v := 3) (by decide) dX12_isSought_8 rfl ?_
    refine fr_iload_n (i := 1) (q := 1) rfl dX12_isSought_9 rfl ?_
    refine fr_imul dX12_isSought_10 rfl ?_
    obtain ⟨hz1, h⟩ := h
    refine fr_iald dX12_isSought_11 rfl k_o_poses hz1 ?_
    refine fr_aload_n (i := 0) (q := 0) rfl dX12_isSought_12 rfl ?_
    refine fr_getR dX12_isSought_13 rfl fl_X12_46 k_o r_o_poses ?_
    refine fr_iconst (v := 3) (by decide) dX12_isSought_16 rfl ?_
    refine fr_iload_n (i := 1) (q := 1) rfl dX12_isSought_17 rfl ?_
    refine fr_imul dX12_isSought_18 rfl ?_
    refine fr_iconst (v := 1) (by decide) dX12_isSought_19 rfl ?_
    refine fr_iadd dX12_isSought_20 rfl ?_
    obtain ⟨hz2, h⟩ := h
    refine fr_iald dX12_isSought_21 rfl k_o_poses hz2 ?_
    refine fr_icmp_eq (tgt := 29) dX12_isSought_22 (by decide) rfl (fun hc => ?_) (fun hc => ?_)
    · have h := h.1 hc
      refine fr_iconst (v := 0) (by decide) dX12_isSought_29 rfl ?_
      exact fr_zret (by decide) rfl dX12_isSought_30 h.1 h.2
    · have h := h.2 hc
      refine fr_iconst (v := 1) (by decide) dX12_isSought_25 rfl ?_
      refine fr_goto (n := 30) dX12_isSought_26 (by decide) ?_
      exact fr_zret (by decide) rfl dX12_isSought_30 h.1 h.2
theorem wp_X12_isSought_33 {g : GE} {Z : Zs} {I : Nat → Nat → Int32} {L : Nat → Nat → Int64} {r : Option Value} {M' : Mem} {o : Nat} {u1 : Int32} {u2 : Int32} {u3 : Int32} {o_poses : Nat} (k_o : KM Z o 12) (r_o_poses : Z.2.1 o 28 = some o_poses) (k_o_poses : KM Z o_poses 13) (h : (((I o 34) ≤ u3 → (r = some (.int 1) ∧ M' = (Z, I, L))) ∧ (¬ (I o 34) ≤ u3 → (vp_in ((3 * u1) + u3) (Z.2.2.1 o_poses) ∧ ((((I o_poses ((3 * u1) + u3).toNatClampNeg) / 4) = u2 → (∀ y2 : Int32, y2 = (u3 + 1) → Lp_X12_isSought_33 g 1 o u1 u2 y2 (Z, I, L) r M')) ∧ (¬ ((I o_poses ((3 * u1) + u3).toNatClampNeg) / 4) = u2 → (r = some (.int 0) ∧ M' = (Z, I, L)))))))) : Lp_X12_isSought_33 g 1 o u1 u2 u3 (Z, I, L) r M' := by
  refine fr_iload_n (i := 3) (q := 3) rfl dX12_isSought_33 rfl ?_
  refine fr_aload_n (i := 0) (q := 0) rfl dX12_isSought_34 rfl ?_
  refine fr_getI dX12_isSought_35 rfl fl_X12_316 k_o ?_
  refine fr_icmp_ge (tgt := 65) dX12_isSought_38 (by decide) rfl (fun hc => ?_) (fun hc => ?_)
  · have h := h.1 hc
    refine fr_iconst (v := 1) (by decide) dX12_isSought_65 rfl ?_
    exact fr_zret (by decide) rfl dX12_isSought_66 h.1 h.2
  · have h := h.2 hc
    refine fr_aload_n (i := 0) (q := 0) rfl dX12_isSought_41 rfl ?_
    refine fr_getR dX12_isSought_42 rfl fl_X12_46 k_o r_o_poses ?_
    refine fr_iconst (v := 3) (by decide) dX12_isSought_45 rfl ?_
    refine fr_iload_n (i := 1) (q := 1) rfl dX12_isSought_46 rfl ?_
    refine fr_imul dX12_isSought_47 rfl ?_
    refine fr_iload_n (i := 3) (q := 3) rfl dX12_isSought_48 rfl ?_
    refine fr_iadd dX12_isSought_49 rfl ?_
    obtain ⟨hz1, h⟩ := h
    refine fr_iald dX12_isSought_50 rfl k_o_poses hz1 ?_
    refine fr_iconst (v := 4) (by decide) dX12_isSought_51 rfl ?_
    refine fr_idiv (by decide) dX12_isSought_52 rfl ?_
    refine fr_iload_n (i := 2) (q := 2) rfl dX12_isSought_53 rfl ?_
    refine fr_icmp_eq (tgt := 59) dX12_isSought_54 (by decide) rfl (fun hc => ?_) (fun hc => ?_)
    · have h := h.1 hc
      obtain ⟨y2, hy2⟩ : ∃ y : Int32, y = u3 + 1 := ⟨_, rfl⟩
      have h := h y2 hy2
      refine fr_iinc (q := 3) (v := y2) (lv' := [(3, .int y2), (0, rf g o), (1, .int u1), (2, .int u2)]) rfl (by rw [hy2]; rfl) dX12_isSought_59 rfl (by decide) rfl ?_
      refine fr_goto (n := 33) dX12_isSought_62 (by decide) ?_
      exact fr_sub [1, 2, 3, 0] rfl h
    · have h := h.2 hc
      refine fr_iconst (v := 0) (by decide) dX12_isSought_57 rfl ?_
      exact fr_zret (by decide) rfl dX12_isSought_58 h.1 h.2
abbrev Lp_X12_search_2 (g : GE) (d : Nat) (o : Nat) (u1 : Int32) (u2 : Int32) (u3 : Int32) (M : Mem) (r : Option Value) (M' : Mem) : Prop := Fr g d mu_X12_search 2 [(0, rf g o), (1, .int u1), (2, .int u2), (3, .int u3)] [] M r M'
theorem cp_X12_search {g : GE} {Z : Zs} {I : Nat → Nat → Int32} {L : Nat → Nat → Int64} {r : Option Value} {M' : Mem} {o : Nat} {x1 : Int32} {x2 : Int32} (k_o : KM Z o 12) (h : Lp_X12_search_2 g 7 o x1 x2 0 (Z, I, L) r M') : Cl g 7 mu_X12_search [rf g o, .int x1, .int x2] (Z, I, L) r M' := by
  refine cl_of (lv := [(0, rf g o), (1, .int x1), (2, .int x2)]) (by decide) (Nat.le_of_ble_eq_true rfl) rfl ?_
  refine fr_iconst (v := 0) (by decide) dX12_search_0 rfl ?_
  refine fr_istore_n (i := 3) (lv' := [(3, .int 0), (0, rf g o), (1, .int x1), (2, .int x2)]) dX12_search_1 rfl (by decide) rfl ?_
  exact fr_sub [1, 2, 3, 0] rfl h
abbrev Lp_X12_search_29 (g : GE) (d : Nat) (o : Nat) (u1 : Int32) (u2 : Int32) (u3 : Int32) (M : Mem) (r : Option Value) (M' : Mem) : Prop := Fr g d mu_X12_search 29 [(0, rf g o), (1, .int u1), (2, .int u2), (3, .int u3)] [] M r M'
theorem wp_X12_search_2 {g : GE} {Z : Zs} {I : Nat → Nat → Int32} {L : Nat → Nat → Int64} {r : Option Value} {M' : Mem} {o : Nat} {u1 : Int32} {u2 : Int32} {u3 : Int32} {o_chains : Nat} (k_o : KM Z o 12) (r_o_chains : Z.2.1 o 32 = some o_chains) (k_o_chains : KM Z o_chains 13) (h : ((4096 ≤ u3 → (∀ I1 : Nat → Nat → Int32, I1 = rw1 I o (upd (I o) 35 0) → Lp_X12_search_29 g 7 o u1 u2 0 (Z, I1, L) r M')) ∧ (¬ 4096 ≤ u3 → (vp_in u3 (Z.2.2.1 o_chains) ∧ (∀ I3 : Nat → Nat → Int32, I3 = rw1 I o_chains (upd (I o_chains) u3.toNatClampNeg ((-1))) → (∀ y4 : Int32, y4 = (u3 + 1) → Lp_X12_search_2 g 7 o u1 u2 y4 (Z, I3, L) r M')))))) : Lp_X12_search_2 g 7 o u1 u2 u3 (Z, I, L) r M' := by
  refine fr_iload_n (i := 3) (q := 3) rfl dX12_search_2 rfl ?_
  refine fr_sipush (v := 4096) (by decide) dX12_search_3 rfl ?_
  refine fr_icmp_ge (tgt := 22) dX12_search_6 (by decide) rfl (fun hc => ?_) (fun hc => ?_)
  · have h := h.1 hc
    refine fr_aload_n (i := 0) (q := 0) rfl dX12_search_22 rfl ?_
    refine fr_iconst (v := 0) (by decide) dX12_search_23 rfl ?_
    refine fr_putI dX12_search_24 rfl fp_X12_313 k_o ?_
    refine fr_memI (fun I1 hI1 => ?_)
    have h := h I1 hI1
    refine fr_iconst (v := 0) (by decide) dX12_search_27 rfl ?_
    refine fr_istore_n (i := 3) (lv' := [(3, .int 0), (0, rf g o), (1, .int u1), (2, .int u2)]) dX12_search_28 rfl (by decide) rfl ?_
    exact fr_sub [1, 2, 3, 0] rfl h
  · have h := h.2 hc
    refine fr_aload_n (i := 0) (q := 0) rfl dX12_search_9 rfl ?_
    refine fr_getR dX12_search_10 rfl fl_X12_58 k_o r_o_chains ?_
    refine fr_iload_n (i := 3) (q := 3) rfl dX12_search_13 rfl ?_
    refine fr_iconst (v := (-1)) (by decide) dX12_search_14 rfl ?_
    obtain ⟨hz2, h⟩ := h
    refine fr_iast dX12_search_15 rfl k_o_chains hz2 ?_
    refine fr_memI (fun I3 hI3 => ?_)
    have h := h I3 hI3
    obtain ⟨y4, hy4⟩ : ∃ y : Int32, y = u3 + 1 := ⟨_, rfl⟩
    have h := h y4 hy4
    refine fr_iinc (q := 3) (v := y4) (lv' := [(3, .int y4), (0, rf g o), (1, .int u1), (2, .int u2)]) rfl (by rw [hy4]; rfl) dX12_search_16 rfl (by decide) rfl ?_
    refine fr_goto (n := 2) dX12_search_19 (by decide) ?_
    exact fr_sub [1, 2, 3, 0] rfl h
abbrev Lp_X12_search_101 (g : GE) (d : Nat) (o : Nat) (u2 : Int32) (u4 : Int32) (M : Mem) (r : Option Value) (M' : Mem) : Prop := Fr g d mu_X12_search 101 [(0, rf g o), (2, .int u2), (4, .int u4)] [] M r M'
theorem wp_X12_search_29 {g : GE} {Z : Zs} {I : Nat → Nat → Int32} {L : Nat → Nat → Int64} {r : Option Value} {M' : Mem} {o : Nat} {u1 : Int32} {u2 : Int32} {u3 : Int32} {o_habits : Nat} (k_o : KM Z o 12) (r_o_habits : Z.2.1 o 33 = some o_habits) (k_o_habits : KM Z o_habits 13) (h : (((I o 34) ≤ u3 → (((I o 34) ≤ 1 → (((I o 34) ≤ 2 → (∃ (v1 : Int32) (I2 : Nat → Nat → Int32) (L3 : Nat → Nat → Int64), Cl g 2 mu_X12_isKept [rf g o, .int u1, .int 0, .int 0, .int ((-1)), .int 0] (Z, I, L) (some (.int v1)) (Z, I2, L3) ∧ (∃ (v5 : Int32), Cl g 1 mu_X12_isSought [rf g o, .int 0, .int u2] (Z, I2, L3) (some (.int v5)) (Z, I2, L3) ∧ ((v5 = 0 → Lp_X12_search_101 g 7 o u2 0 (Z, I2, L3) r M') ∧ (¬ v5 = 0 → (r = some (.int 0) ∧ M' = (Z, I2, L3))))))) ∧ (¬ (I o 34) ≤ 2 → (∃ (v7 : Int32) (I8 : Nat → Nat → Int32) (L9 : Nat → Nat → Int64), Cl g 2 mu_X12_isKept [rf g o, .int u1, .int 0, .int u1, .int ((-1)), .int 0] (Z, I, L) (some (.int v7)) (Z, I8, L9) ∧ (∃ (v11 : Int32), Cl g 1 mu_X12_isSought [rf g o, .int 0, .int u2] (Z, I8, L9) (some (.int v11)) (Z, I8, L9) ∧ ((v11 = 0 → Lp_X12_search_101 g 7 o u2 0 (Z, I8, L9) r M') ∧ (¬ v11 = 0 → (r = some (.int 0) ∧ M' = (Z, I8, L9))))))))) ∧ (¬ (I o 34) ≤ 1 → (((I o 34) ≤ 2 → (∃ (v13 : Int32) (I14 : Nat → Nat → Int32) (L15 : Nat → Nat → Int64), Cl g 2 mu_X12_isKept [rf g o, .int u1, .int u1, .int 0, .int ((-1)), .int 0] (Z, I, L) (some (.int v13)) (Z, I14, L15) ∧ (∃ (v17 : Int32), Cl g 1 mu_X12_isSought [rf g o, .int 0, .int u2] (Z, I14, L15) (some (.int v17)) (Z, I14, L15) ∧ ((v17 = 0 → Lp_X12_search_101 g 7 o u2 0 (Z, I14, L15) r M') ∧ (¬ v17 = 0 → (r = some (.int 0) ∧ M' = (Z, I14, L15))))))) ∧ (¬ (I o 34) ≤ 2 → (∃ (v19 : Int32) (I20 : Nat → Nat → Int32) (L21 : Nat → Nat → Int64), Cl g 2 mu_X12_isKept [rf g o, .int u1, .int u1, .int u1, .int ((-1)), .int 0] (Z, I, L) (some (.int v19)) (Z, I20, L21) ∧ (∃ (v23 : Int32), Cl g 1 mu_X12_isSought [rf g o, .int 0, .int u2] (Z, I20, L21) (some (.int v23)) (Z, I20, L21) ∧ ((v23 = 0 → Lp_X12_search_101 g 7 o u2 0 (Z, I20, L21) r M') ∧ (¬ v23 = 0 → (r = some (.int 0) ∧ M' = (Z, I20, L21))))))))))) ∧ (¬ (I o 34) ≤ u3 → (vp_in u3 (Z.2.2.1 o_habits) ∧ (∃ (I26 : Nat → Nat → Int32) (L27 : Nat → Nat → Int64), Cl g 6 mu_X12_lay [rf g o, .int (I o_habits u3.toNatClampNeg)] (Z, I, L) none (Z, I26, L27) ∧ (∀ y29 : Int32, y29 = (u3 + 1) → Lp_X12_search_29 g 7 o u1 u2 y29 (Z, I26, L27) r M')))))) : Lp_X12_search_29 g 7 o u1 u2 u3 (Z, I, L) r M' := by
  refine fr_iload_n (i := 3) (q := 3) rfl dX12_search_29 rfl ?_
  refine fr_aload_n (i := 0) (q := 0) rfl dX12_search_30 rfl ?_
  refine fr_getI dX12_search_31 rfl fl_X12_316 k_o ?_
  refine fr_icmp_ge (tgt := 53) dX12_search_34 (by decide) rfl (fun hc => ?_) (fun hc => ?_)
  · have h := h.1 hc
    refine fr_aload_n (i := 0) (q := 0) rfl dX12_search_53 rfl ?_
    refine fr_iload_n (i := 1) (q := 1) rfl dX12_search_54 rfl ?_
    refine fr_aload_n (i := 0) (q := 0) rfl dX12_search_55 rfl ?_
    refine fr_getI dX12_search_56 rfl fl_X12_316 k_o ?_
    refine fr_iconst (v := 1) (by decide) dX12_search_59 rfl ?_
    refine fr_icmp_le (tgt := 67) dX12_search_60 (by decide) rfl (fun hc => ?_) (fun hc => ?_)
    · have h := h.1 hc
      refine fr_iconst (v := 0) (by decide) dX12_search_67 rfl ?_
      refine fr_aload_n (i := 0) (q := 0) rfl dX12_search_68 rfl ?_
      refine fr_getI dX12_search_69 rfl fl_X12_316 k_o ?_
      refine fr_iconst (v := 2) (by decide) dX12_search_72 rfl ?_
      refine fr_icmp_le (tgt := 80) dX12_search_73 (by decide) rfl (fun hc => ?_) (fun hc => ?_)
      · have h := h.1 hc
        refine fr_iconst (v := 0) (by decide) dX12_search_80 rfl ?_
        refine fr_iconst (v := (-1)) (by decide) dX12_search_81 rfl ?_
        refine fr_iconst (v := 0) (by decide) dX12_search_82 rfl ?_
        obtain ⟨v1, I2, L3, hc4, h⟩ := h
        refine fr_callV2 (ν := mu_X12_isKept) (st2 := [.int v1]) (As := [.int u1, .int 0, .int 0, .int ((-1)), .int 0]) (st := []) (v := (some (.int v1))) (M1 := (Z, I2, L3)) dX12_search_83 rfl ml_X12_325 mo_X12_isKept mi_X12_isKept (ci := 12) rfl rfl k_o (Nat.le_of_ble_eq_true rfl) rfl rfl (Nat.le_of_ble_eq_true rfl) hc4 rfl ?_
        refine fr_istore_n (i := 3) (lv' := [(3, .int v1), (0, rf g o), (1, .int u1), (2, .int u2)]) dX12_search_86 rfl (by decide) rfl ?_
        refine fr_aload_n (i := 0) (q := 1) rfl dX12_search_87 rfl ?_
        refine fr_iconst (v := 0) (by decide) dX12_search_88 rfl ?_
        refine fr_iload_n (i := 2) (q := 3) rfl dX12_search_89 rfl ?_
        obtain ⟨v5, hc6, h⟩ := h
        refine fr_callV2 (ν := mu_X12_isSought) (st2 := [.int v5]) (As := [.int 0, .int u2]) (st := []) (v := (some (.int v5))) (M1 := (Z, I2, L3)) dX12_search_90 rfl ml_X12_329 mo_X12_isSought mi_X12_isSought (ci := 12) rfl rfl k_o (Nat.le_of_ble_eq_true rfl) rfl rfl (Nat.le_of_ble_eq_true rfl) hc6 rfl ?_
        refine fr_if_eq (tgt := 98) dX12_search_93 (by decide) rfl (fun hc => ?_) (fun hc => ?_)
        · have h := h.1 hc
          refine fr_iconst (v := 0) (by decide) dX12_search_98 rfl ?_
          refine fr_istore (lv' := [(4, .int 0), (3, .int v1), (0, rf g o), (1, .int u1), (2, .int u2)]) dX12_search_99 rfl (by decide) rfl ?_
          exact fr_sub [2, 4, 0] rfl h
        · have h := h.2 hc
          refine fr_iconst (v := 0) (by decide) dX12_search_96 rfl ?_
          exact fr_iret rfl dX12_search_97 h.1 h.2
      · have h := h.2 hc
        refine fr_iload_n (i := 1) (q := 1) rfl dX12_search_76 rfl ?_
        refine fr_goto (n := 81) dX12_search_77 (by decide) ?_
        refine fr_iconst (v := (-1)) (by decide) dX12_search_81 rfl ?_
        refine fr_iconst (v := 0) (by decide) dX12_search_82 rfl ?_
        obtain ⟨v7, I8, L9, hc10, h⟩ := h
        refine fr_callV2 (ν := mu_X12_isKept) (st2 := [.int v7]) (As := [.int u1, .int 0, .int u1, .int ((-1)), .int 0]) (st := []) (v := (some (.int v7))) (M1 := (Z, I8, L9)) dX12_search_83 rfl ml_X12_325 mo_X12_isKept mi_X12_isKept (ci := 12) rfl rfl k_o (Nat.le_of_ble_eq_true rfl) rfl rfl (Nat.le_of_ble_eq_true rfl) hc10 rfl ?_
        refine fr_istore_n (i := 3) (lv' := [(3, .int v7), (0, rf g o), (1, .int u1), (2, .int u2)]) dX12_search_86 rfl (by decide) rfl ?_
        refine fr_aload_n (i := 0) (q := 1) rfl dX12_search_87 rfl ?_
        refine fr_iconst (v := 0) (by decide) dX12_search_88 rfl ?_
        refine fr_iload_n (i := 2) (q := 3) rfl dX12_search_89 rfl ?_
        obtain ⟨v11, hc12, h⟩ := h
        refine fr_callV2 (ν := mu_X12_isSought) (st2 := [.int v11]) (As := [.int 0, .int u2]) (st := []) (v := (some (.int v11))) (M1 := (Z, I8, L9)) dX12_search_90 rfl ml_X12_329 mo_X12_isSought mi_X12_isSought (ci := 12) rfl rfl k_o (Nat.le_of_ble_eq_true rfl) rfl rfl (Nat.le_of_ble_eq_true rfl) hc12 rfl ?_
        refine fr_if_eq (tgt := 98) dX12_search_93 (by decide) rfl (fun hc => ?_) (fun hc => ?_)
        · have h := h.1 hc
          refine fr_iconst (v := 0) (by decide) dX12_search_98 rfl ?_
          refine fr_istore (lv' := [(4, .int 0), (3, .int v7), (0, rf g o), (1, .int u1), (2, .int u2)]) dX12_search_99 rfl (by decide) rfl ?_
          exact fr_sub [2, 4, 0] rfl h
        · have h := h.2 hc
          refine fr_iconst (v := 0) (by decide) dX12_search_96 rfl ?_
          exact fr_iret rfl dX12_search_97 h.1 h.2
    · have h := h.2 hc
      refine fr_iload_n (i := 1) (q := 1) rfl dX12_search_63 rfl ?_
      refine fr_goto (n := 68) dX12_search_64 (by decide) ?_
      refine fr_aload_n (i := 0) (q := 0) rfl dX12_search_68 rfl ?_
      refine fr_getI dX12_search_69 rfl fl_X12_316 k_o ?_
      refine fr_iconst (v := 2) (by decide) dX12_search_72 rfl ?_
      refine fr_icmp_le (tgt := 80) dX12_search_73 (by decide) rfl (fun hc => ?_) (fun hc => ?_)
      · have h := h.1 hc
        refine fr_iconst (v := 0) (by decide) dX12_search_80 rfl ?_
        refine fr_iconst (v := (-1)) (by decide) dX12_search_81 rfl ?_
        refine fr_iconst (v := 0) (by decide) dX12_search_82 rfl ?_
        obtain ⟨v13, I14, L15, hc16, h⟩ := h
        refine fr_callV2 (ν := mu_X12_isKept) (st2 := [.int v13]) (As := [.int u1, .int u1, .int 0, .int ((-1)), .int 0]) (st := []) (v := (some (.int v13))) (M1 := (Z, I14, L15)) dX12_search_83 rfl ml_X12_325 mo_X12_isKept mi_X12_isKept (ci := 12) rfl rfl k_o (Nat.le_of_ble_eq_true rfl) rfl rfl (Nat.le_of_ble_eq_true rfl) hc16 rfl ?_
        refine fr_istore_n (i := 3) (lv' := [(3, .int v13), (0, rf g o), (1, .int u1), (2, .int u2)]) dX12_search_86 rfl (by decide) rfl ?_
        refine fr_aload_n (i := 0) (q := 1) rfl dX12_search_87 rfl ?_
        refine fr_iconst (v := 0) (by decide) dX12_search_88 rfl ?_
        refine fr_iload_n (i := 2) (q := 3) rfl dX12_search_89 rfl ?_
        obtain ⟨v17, hc18, h⟩ := h
        refine fr_callV2 (ν := mu_X12_isSought) (st2 := [.int v17]) (As := [.int 0, .int u2]) (st := []) (v := (some (.int v17))) (M1 := (Z, I14, L15)) dX12_search_90 rfl ml_X12_329 mo_X12_isSought mi_X12_isSought (ci := 12) rfl rfl k_o (Nat.le_of_ble_eq_true rfl) rfl rfl (Nat.le_of_ble_eq_true rfl) hc18 rfl ?_
        refine fr_if_eq (tgt := 98) dX12_search_93 (by decide) rfl (fun hc => ?_) (fun hc => ?_)
        · have h := h.1 hc
          refine fr_iconst (v := 0) (by decide) dX12_search_98 rfl ?_
          refine fr_istore (lv' := [(4, .int 0), (3, .int v13), (0, rf g o), (1, .int u1), (2, .int u2)]) dX12_search_99 rfl (by decide) rfl ?_
          exact fr_sub [2, 4, 0] rfl h
        · have h := h.2 hc
          refine fr_iconst (v := 0) (by decide) dX12_search_96 rfl ?_
          exact fr_iret rfl dX12_search_97 h.1 h.2
      · have h := h.2 hc
        refine fr_iload_n (i := 1) (q := 1) rfl dX12_search_76 rfl ?_
        refine fr_goto (n := 81) dX12_search_77 (by decide) ?_
        refine fr_iconst (v := (-1)) (by decide) dX12_search_81 rfl ?_
        refine fr_iconst (v := 0) (by decide) dX12_search_82 rfl ?_
        obtain ⟨v19, I20, L21, hc22, h⟩ := h
        refine fr_callV2 (ν := mu_X12_isKept) (st2 := [.int v19]) (As := [.int u1, .int u1, .int u1, .int ((-1)), .int 0]) (st := []) (v := (some (.int v19))) (M1 := (Z, I20, L21)) dX12_search_83 rfl ml_X12_325 mo_X12_isKept mi_X12_isKept (ci := 12) rfl rfl k_o (Nat.le_of_ble_eq_true rfl) rfl rfl (Nat.le_of_ble_eq_true rfl) hc22 rfl ?_
        refine fr_istore_n (i := 3) (lv' := [(3, .int v19), (0, rf g o), (1, .int u1), (2, .int u2)]) dX12_search_86 rfl (by decide) rfl ?_
        refine fr_aload_n (i := 0) (q := 1) rfl dX12_search_87 rfl ?_
        refine fr_iconst (v := 0) (by decide) dX12_search_88 rfl ?_
        refine fr_iload_n (i := 2) (q := 3) rfl dX12_search_89 rfl ?_
        obtain ⟨v23, hc24, h⟩ := h
        refine fr_callV2 (ν := mu_X12_isSought) (st2 := [.int v23]) (As := [.int 0, .int u2]) (st := []) (v := (some (.int v23))) (M1 := (Z, I20, L21)) dX12_search_90 rfl ml_X12_329 mo_X12_isSought mi_X12_isSought (ci := 12) rfl rfl k_o (Nat.le_of_ble_eq_true rfl) rfl rfl (Nat.le_of_ble_eq_true rfl) hc24 rfl ?_
        refine fr_if_eq (tgt := 98) dX12_search_93 (by decide) rfl (fun hc => ?_) (fun hc => ?_)
        · have h := h.1 hc
          refine fr_iconst (v := 0) (by decide) dX12_search_98 rfl ?_
          refine fr_istore (lv' := [(4, .int 0), (3, .int v19), (0, rf g o), (1, .int u1), (2, .int u2)]) dX12_search_99 rfl (by decide) rfl ?_
          exact fr_sub [2, 4, 0] rfl h
        · have h := h.2 hc
          refine fr_iconst (v := 0) (by decide) dX12_search_96 rfl ?_
          exact fr_iret rfl dX12_search_97 h.1 h.2
  · have h := h.2 hc
    refine fr_aload_n (i := 0) (q := 0) rfl dX12_search_37 rfl ?_
    refine fr_aload_n (i := 0) (q := 0) rfl dX12_search_38 rfl ?_
    refine fr_getR dX12_search_39 rfl fl_X12_61 k_o r_o_habits ?_
    refine fr_iload_n (i := 3) (q := 3) rfl dX12_search_42 rfl ?_
    obtain ⟨hz25, h⟩ := h
    refine fr_iald dX12_search_43 rfl k_o_habits hz25 ?_
    obtain ⟨I26, L27, hc28, h⟩ := h
    refine fr_callV2 (ν := mu_X12_lay) (st2 := []) (As := [.int (I o_habits u3.toNatClampNeg)]) (st := []) (v := none) (M1 := (Z, I26, L27)) dX12_search_44 rfl ml_X12_322 mo_X12_lay mi_X12_lay (ci := 12) rfl rfl k_o (Nat.le_of_ble_eq_true rfl) rfl rfl (Nat.le_of_ble_eq_true rfl) hc28 rfl ?_
    obtain ⟨y29, hy29⟩ : ∃ y : Int32, y = u3 + 1 := ⟨_, rfl⟩
    have h := h y29 hy29
    refine fr_iinc (q := 3) (v := y29) (lv' := [(3, .int y29), (0, rf g o), (1, .int u1), (2, .int u2)]) rfl (by rw [hy29]; rfl) dX12_search_47 rfl (by decide) rfl ?_
    refine fr_goto (n := 29) dX12_search_50 (by decide) ?_
    exact fr_sub [1, 2, 3, 0] rfl h
abbrev Lp_X12_search_113 (g : GE) (d : Nat) (o : Nat) (u2 : Int32) (u4 : Int32) (u5 : Int32) (M : Mem) (r : Option Value) (M' : Mem) : Prop := Fr g d mu_X12_search 113 [(0, rf g o), (2, .int u2), (4, .int u4), (5, .int u5)] [] M r M'
theorem wp_X12_search_101 {g : GE} {Z : Zs} {I : Nat → Nat → Int32} {L : Nat → Nat → Int64} {r : Option Value} {M' : Mem} {o : Nat} {u2 : Int32} {u4 : Int32} (k_o : KM Z o 12) (h : (((I o 35) ≤ u4 → (r = some (.int ((-1))) ∧ M' = (Z, I, L))) ∧ (¬ (I o 35) ≤ u4 → Lp_X12_search_113 g 7 o u2 u4 0 (Z, I, L) r M'))) : Lp_X12_search_101 g 7 o u2 u4 (Z, I, L) r M' := by
  refine fr_iload (q := 2) rfl dX12_search_101 rfl ?_
  refine fr_aload_n (i := 0) (q := 0) rfl dX12_search_103 rfl ?_
  refine fr_getI dX12_search_104 rfl fl_X12_313 k_o ?_
  refine fr_icmp_ge (tgt := 200) dX12_search_107 (by decide) rfl (fun hc => ?_) (fun hc => ?_)
  · have h := h.1 hc
    refine fr_iconst (v := (-1)) (by decide) dX12_search_200 rfl ?_
    exact fr_iret rfl dX12_search_201 h.1 h.2
  · have h := h.2 hc
    refine fr_iconst (v := 0) (by decide) dX12_search_110 rfl ?_
    refine fr_istore (lv' := [(5, .int 0), (0, rf g o), (2, .int u2), (4, .int u4)]) dX12_search_111 rfl (by decide) rfl ?_
    exact fr_sub [1, 2, 3, 0] rfl h
theorem wp_X12_search_113 {g : GE} {Z : Zs} {I : Nat → Nat → Int32} {L : Nat → Nat → Int64} {r : Option Value} {M' : Mem} {o : Nat} {u2 : Int32} {u4 : Int32} {u5 : Int32} (k_o : KM Z o 12) (h : ((4 ≤ u5 → (∀ y1 : Int32, y1 = (u4 + 1) → Lp_X12_search_101 g 7 o u2 y1 (Z, I, L) r M')) ∧ (¬ 4 ≤ u5 → (∀ y2 : Int32, y2 = (I o 35) → (∃ (v3 : Int32), Cl g 3 mu_X12_next [rf g o, .int u4, .int 0, .int u5] (Z, I, L) (some (.int v3)) (Z, I, L) ∧ (∃ (v5 : Int32), Cl g 3 mu_X12_next [rf g o, .int u4, .int 1, .int u5] (Z, I, L) (some (.int v5)) (Z, I, L) ∧ (∃ (v7 : Int32), Cl g 3 mu_X12_next [rf g o, .int u4, .int 2, .int u5] (Z, I, L) (some (.int v7)) (Z, I, L) ∧ (∃ (v9 : Int32) (I10 : Nat → Nat → Int32) (L11 : Nat → Nat → Int64), Cl g 2 mu_X12_isKept [rf g o, .int v3, .int v5, .int v7, .int u4, .int u5] (Z, I, L) (some (.int v9)) (Z, I10, L11) ∧ ((¬ v9 = 0 → (((I10 o 35) ≤ y2 → (∀ y13 : Int32, y13 = (u5 + 1) → Lp_X12_search_113 g 7 o u2 u4 y13 (Z, I10, L11) r M')) ∧ (¬ (I10 o 35) ≤ y2 → (∃ (v14 : Int32), Cl g 1 mu_X12_isSought [rf g o, .int y2, .int u2] (Z, I10, L11) (some (.int v14)) (Z, I10, L11) ∧ ((v14 = 0 → (∀ y16 : Int32, y16 = (u5 + 1) → Lp_X12_search_113 g 7 o u2 u4 y16 (Z, I10, L11) r M')) ∧ (¬ v14 = 0 → (r = some (.int y2) ∧ M' = (Z, I10, L11)))))))) ∧ (v9 = 0 → (r = some (.int ((-2))) ∧ M' = (Z, I10, L11)))))))))))) : Lp_X12_search_113 g 7 o u2 u4 u5 (Z, I, L) r M' := by
  refine fr_iload (q := 3) rfl dX12_search_113 rfl ?_
  refine fr_iconst (v := 4) (by decide) dX12_search_115 rfl ?_
  refine fr_icmp_ge (tgt := 194) dX12_search_116 (by decide) rfl (fun hc => ?_) (fun hc => ?_)
  · have h := h.1 hc
    obtain ⟨y1, hy1⟩ : ∃ y : Int32, y = u4 + 1 := ⟨_, rfl⟩
    have h := h y1 hy1
    refine fr_iinc (q := 2) (v := y1) (lv' := [(4, .int y1), (0, rf g o), (2, .int u2), (5, .int u5)]) rfl (by rw [hy1]; rfl) dX12_search_194 rfl (by decide) rfl ?_
    refine fr_goto (n := 101) dX12_search_197 (by decide) ?_
    exact fr_sub [1, 2, 0] rfl h
  · have h := h.2 hc
    refine fr_aload_n (i := 0) (q := 0) rfl dX12_search_119 rfl ?_
    refine fr_getI dX12_search_120 rfl fl_X12_313 k_o ?_
    refine fr_topi (fun y2 hy2 => ?_)
    have h := h y2 hy2
    refine fr_istore (lv' := [(6, .int y2), (0, rf g o), (2, .int u2), (4, .int u4), (5, .int u5)]) dX12_search_123 rfl (by decide) rfl ?_
    refine fr_aload_n (i := 0) (q := 1) rfl dX12_search_125 rfl ?_
    refine fr_aload_n (i := 0) (q := 1) rfl dX12_search_126 rfl ?_
    refine fr_iload (q := 3) rfl dX12_search_127 rfl ?_
    refine fr_iconst (v := 0) (by decide) dX12_search_129 rfl ?_
    refine fr_iload (q := 4) rfl dX12_search_130 rfl ?_
    obtain ⟨v3, hc4, h⟩ := h
    refine fr_callV2 (ν := mu_X12_next) (st2 := [.int v3, rf g o]) (As := [.int u4, .int 0, .int u5]) (st := [rf g o]) (v := (some (.int v3))) (M1 := (Z, I, L)) dX12_search_132 rfl ml_X12_333 mo_X12_next mi_X12_next (ci := 12) rfl rfl k_o (Nat.le_of_ble_eq_true rfl) rfl rfl (Nat.le_of_ble_eq_true rfl) hc4 rfl ?_
    refine fr_aload_n (i := 0) (q := 1) rfl dX12_search_135 rfl ?_
    refine fr_iload (q := 3) rfl dX12_search_136 rfl ?_
    refine fr_iconst (v := 1) (by decide) dX12_search_138 rfl ?_
    refine fr_iload (q := 4) rfl dX12_search_139 rfl ?_
    obtain ⟨v5, hc6, h⟩ := h
    refine fr_callV2 (ν := mu_X12_next) (st2 := [.int v5, .int v3, rf g o]) (As := [.int u4, .int 1, .int u5]) (st := [.int v3, rf g o]) (v := (some (.int v5))) (M1 := (Z, I, L)) dX12_search_141 rfl ml_X12_333 mo_X12_next mi_X12_next (ci := 12) rfl rfl k_o (Nat.le_of_ble_eq_true rfl) rfl rfl (Nat.le_of_ble_eq_true rfl) hc6 rfl ?_
    refine fr_aload_n (i := 0) (q := 1) rfl dX12_search_144 rfl ?_
    refine fr_iload (q := 3) rfl dX12_search_145 rfl ?_
    refine fr_iconst (v := 2) (by decide) dX12_search_147 rfl ?_
    refine fr_iload (q := 4) rfl dX12_search_148 rfl ?_
    obtain ⟨v7, hc8, h⟩ := h
    refine fr_callV2 (ν := mu_X12_next) (st2 := [.int v7, .int v5, .int v3, rf g o]) (As := [.int u4, .int 2, .int u5]) (st := [.int v5, .int v3, rf g o]) (v := (some (.int v7))) (M1 := (Z, I, L)) dX12_search_150 rfl ml_X12_333 mo_X12_next mi_X12_next (ci := 12) rfl rfl k_o (Nat.le_of_ble_eq_true rfl) rfl rfl (Nat.le_of_ble_eq_true rfl) hc8 rfl ?_
    refine fr_iload (q := 3) rfl dX12_search_153 rfl ?_
    refine fr_iload (q := 4) rfl dX12_search_155 rfl ?_
    obtain ⟨v9, I10, L11, hc12, h⟩ := h
    refine fr_callV2 (ν := mu_X12_isKept) (st2 := [.int v9]) (As := [.int v3, .int v5, .int v7, .int u4, .int u5]) (st := []) (v := (some (.int v9))) (M1 := (Z, I10, L11)) dX12_search_157 rfl ml_X12_325 mo_X12_isKept mi_X12_isKept (ci := 12) rfl rfl k_o (Nat.le_of_ble_eq_true rfl) rfl rfl (Nat.le_of_ble_eq_true rfl) hc12 rfl ?_
    refine fr_if_ne (tgt := 166) dX12_search_160 (by decide) rfl (fun hc => ?_) (fun hc => ?_)
    · have h := h.1 hc
      refine fr_aload_n (i := 0) (q := 1) rfl dX12_search_166 rfl ?_
      refine fr_getI dX12_search_167 rfl fl_X12_313 k_o ?_
      refine fr_iload (q := 0) rfl dX12_search_170 rfl ?_
      refine fr_icmp_le (tgt := 188) dX12_search_172 (by decide) rfl (fun hc => ?_) (fun hc => ?_)
      · have h := h.1 hc
        obtain ⟨y13, hy13⟩ : ∃ y : Int32, y = u5 + 1 := ⟨_, rfl⟩
        have h := h y13 hy13
        refine fr_iinc (q := 4) (v := y13) (lv' := [(5, .int y13), (6, .int y2), (0, rf g o), (2, .int u2), (4, .int u4)]) rfl (by rw [hy13]; rfl) dX12_search_188 rfl (by decide) rfl ?_
        refine fr_goto (n := 113) dX12_search_191 (by decide) ?_
        exact fr_sub [2, 3, 4, 0] rfl h
      · have h := h.2 hc
        refine fr_aload_n (i := 0) (q := 1) rfl dX12_search_175 rfl ?_
        refine fr_iload (q := 0) rfl dX12_search_176 rfl ?_
        refine fr_iload_n (i := 2) (q := 2) rfl dX12_search_178 rfl ?_
        obtain ⟨v14, hc15, h⟩ := h
        refine fr_callV2 (ν := mu_X12_isSought) (st2 := [.int v14]) (As := [.int y2, .int u2]) (st := []) (v := (some (.int v14))) (M1 := (Z, I10, L11)) dX12_search_179 rfl ml_X12_329 mo_X12_isSought mi_X12_isSought (ci := 12) rfl rfl k_o (Nat.le_of_ble_eq_true rfl) rfl rfl (Nat.le_of_ble_eq_true rfl) hc15 rfl ?_
        refine fr_if_eq (tgt := 188) dX12_search_182 (by decide) rfl (fun hc => ?_) (fun hc => ?_)
        · have h := h.1 hc
          obtain ⟨y16, hy16⟩ : ∃ y : Int32, y = u5 + 1 := ⟨_, rfl⟩
          have h := h y16 hy16
          refine fr_iinc (q := 4) (v := y16) (lv' := [(5, .int y16), (6, .int y2), (0, rf g o), (2, .int u2), (4, .int u4)]) rfl (by rw [hy16]; rfl) dX12_search_188 rfl (by decide) rfl ?_
          refine fr_goto (n := 113) dX12_search_191 (by decide) ?_
          exact fr_sub [2, 3, 4, 0] rfl h
        · have h := h.2 hc
          refine fr_iload (q := 0) rfl dX12_search_185 rfl ?_
          exact fr_iret rfl dX12_search_187 h.1 h.2
    · have h := h.2 hc
      refine fr_bipush (v := (-2)) (by decide) dX12_search_163 rfl ?_
      exact fr_iret rfl dX12_search_165 h.1 h.2
abbrev Lp_X12_tapsTo_11 (g : GE) (d : Nat) (o : Nat) (u1 : Int32) (u2 : Int32) (u3 : Int32) (u4 : Int32) (M : Mem) (r : Option Value) (M' : Mem) : Prop := Fr g d mu_X12_tapsTo 11 [(0, rf g o), (1, .int u1), (2, .int u2), (3, .int u3), (4, .int u4)] [] M r M'
theorem cp_X12_tapsTo {g : GE} {Z : Zs} {I : Nat → Nat → Int32} {L : Nat → Nat → Int64} {r : Option Value} {M' : Mem} {o : Nat} {x1 : Int32} {x2 : Int32} (k_o : KM Z o 12) (h : ((0 ≤ x1 → Lp_X12_tapsTo_11 g 1 o x1 x2 0 x1 (Z, I, L) r M') ∧ (¬ 0 ≤ x1 → (r = some (.int x1) ∧ M' = (Z, I, L))))) : Cl g 1 mu_X12_tapsTo [rf g o, .int x1, .int x2] (Z, I, L) r M' := by
  refine cl_of (lv := [(0, rf g o), (1, .int x1), (2, .int x2)]) (by decide) (Nat.le_of_ble_eq_true rfl) rfl ?_
  refine fr_iload_n (i := 1) (q := 1) rfl dX12_tapsTo_0 rfl ?_
  refine fr_if_ge (tgt := 6) dX12_tapsTo_1 (by decide) rfl (fun hc => ?_) (fun hc => ?_)
  · have h := h.1 hc
    refine fr_iconst (v := 0) (by decide) dX12_tapsTo_6 rfl ?_
    refine fr_istore_n (i := 3) (lv' := [(3, .int 0), (0, rf g o), (1, .int x1), (2, .int x2)]) dX12_tapsTo_7 rfl (by decide) rfl ?_
    refine fr_iload_n (i := 1) (q := 2) rfl dX12_tapsTo_8 rfl ?_
    refine fr_istore (lv' := [(4, .int x1), (3, .int 0), (0, rf g o), (1, .int x1), (2, .int x2)]) dX12_tapsTo_9 rfl (by decide) rfl ?_
    exact fr_sub [2, 3, 4, 1, 0] rfl h
  · have h := h.2 hc
    refine fr_iload_n (i := 1) (q := 1) rfl dX12_tapsTo_4 rfl ?_
    exact fr_iret rfl dX12_tapsTo_5 h.1 h.2
abbrev Lp_X12_tapsTo_53 (g : GE) (d : Nat) (o : Nat) (u2 : Int32) (u4 : Int32) (u5 : Int32) (M : Mem) (r : Option Value) (M' : Mem) : Prop := Fr g d mu_X12_tapsTo 53 [(0, rf g o), (2, .int u2), (4, .int u4), (5, .int u5)] [] M r M'
theorem wp_X12_tapsTo_11 {g : GE} {Z : Zs} {I : Nat → Nat → Int32} {L : Nat → Nat → Int64} {r : Option Value} {M' : Mem} {o : Nat} {u1 : Int32} {u2 : Int32} {u3 : Int32} {u4 : Int32} {o_cameFrom : Nat} (k_o : KM Z o 12) (r_o_cameFrom : Z.2.1 o 29 = some o_cameFrom) (k_o_cameFrom : KM Z o_cameFrom 13) (h : ((u4 ≤ 0 → ((¬ u2 = ((-1)) → ((u2 < u3 → (∀ y1 : Int32, y1 = (u3 - 1) → Lp_X12_tapsTo_53 g 1 o u2 u1 y1 (Z, I, L) r M')) ∧ (¬ u2 < u3 → (r = some (.int ((-1))) ∧ M' = (Z, I, L))))) ∧ (u2 = ((-1)) → (r = some (.int u3) ∧ M' = (Z, I, L))))) ∧ (¬ u4 ≤ 0 → (∀ y2 : Int32, y2 = (u3 + 1) → (vp_in u4 (Z.2.2.1 o_cameFrom) ∧ (∀ y4 : Int32, y4 = (I o_cameFrom u4.toNatClampNeg) → Lp_X12_tapsTo_11 g 1 o u1 u2 y2 y4 (Z, I, L) r M')))))) : Lp_X12_tapsTo_11 g 1 o u1 u2 u3 u4 (Z, I, L) r M' := by
  refine fr_iload (q := 4) rfl dX12_tapsTo_11 rfl ?_
  refine fr_if_le (tgt := 31) dX12_tapsTo_13 (by decide) rfl (fun hc => ?_) (fun hc => ?_)
  · have h := h.1 hc
    refine fr_iload_n (i := 2) (q := 2) rfl dX12_tapsTo_31 rfl ?_
    refine fr_iconst (v := (-1)) (by decide) dX12_tapsTo_32 rfl ?_
    refine fr_icmp_ne (tgt := 38) dX12_tapsTo_33 (by decide) rfl (fun hc => ?_) (fun hc => ?_)
    · have h := h.1 hc
      refine fr_iload_n (i := 2) (q := 2) rfl dX12_tapsTo_38 rfl ?_
      refine fr_iload_n (i := 3) (q := 3) rfl dX12_tapsTo_39 rfl ?_
      refine fr_icmp_lt (tgt := 45) dX12_tapsTo_40 (by decide) rfl (fun hc => ?_) (fun hc => ?_)
      · have h := h.1 hc
        refine fr_iload_n (i := 1) (q := 1) rfl dX12_tapsTo_45 rfl ?_
        refine fr_istore (lv' := [(4, .int u1), (0, rf g o), (1, .int u1), (2, .int u2), (3, .int u3)]) dX12_tapsTo_46 rfl (by decide) rfl ?_
        refine fr_iload_n (i := 3) (q := 4) rfl dX12_tapsTo_48 rfl ?_
        refine fr_iconst (v := 1) (by decide) dX12_tapsTo_49 rfl ?_
        refine fr_isub dX12_tapsTo_50 rfl ?_
        refine fr_topi (fun y1 hy1 => ?_)
        have h := h y1 hy1
        refine fr_istore (lv' := [(5, .int y1), (4, .int u1), (0, rf g o), (1, .int u1), (2, .int u2), (3, .int u3)]) dX12_tapsTo_51 rfl (by decide) rfl ?_
        exact fr_sub [2, 4, 1, 0] rfl h
      · have h := h.2 hc
        refine fr_iconst (v := (-1)) (by decide) dX12_tapsTo_43 rfl ?_
        exact fr_iret rfl dX12_tapsTo_44 h.1 h.2
    · have h := h.2 hc
      refine fr_iload_n (i := 3) (q := 3) rfl dX12_tapsTo_36 rfl ?_
      exact fr_iret rfl dX12_tapsTo_37 h.1 h.2
  · have h := h.2 hc
    obtain ⟨y2, hy2⟩ : ∃ y : Int32, y = u3 + 1 := ⟨_, rfl⟩
    have h := h y2 hy2
    refine fr_iinc (q := 3) (v := y2) (lv' := [(3, .int y2), (0, rf g o), (1, .int u1), (2, .int u2), (4, .int u4)]) rfl (by rw [hy2]; rfl) dX12_tapsTo_16 rfl (by decide) rfl ?_
    refine fr_aload_n (i := 0) (q := 1) rfl dX12_tapsTo_19 rfl ?_
    refine fr_getR dX12_tapsTo_20 rfl fl_X12_49 k_o r_o_cameFrom ?_
    refine fr_iload (q := 4) rfl dX12_tapsTo_23 rfl ?_
    obtain ⟨hz3, h⟩ := h
    refine fr_iald dX12_tapsTo_25 rfl k_o_cameFrom hz3 ?_
    refine fr_topi (fun y4 hy4 => ?_)
    have h := h y4 hy4
    refine fr_istore (lv' := [(4, .int y4), (3, .int y2), (0, rf g o), (1, .int u1), (2, .int u2)]) dX12_tapsTo_26 rfl (by decide) rfl ?_
    refine fr_goto (n := 11) dX12_tapsTo_28 (by decide) ?_
    exact fr_sub [2, 3, 4, 1, 0] rfl h
theorem wp_X12_tapsTo_53 {g : GE} {Z : Zs} {I : Nat → Nat → Int32} {L : Nat → Nat → Int64} {r : Option Value} {M' : Mem} {o : Nat} {u2 : Int32} {u4 : Int32} {u5 : Int32} {o_cameBy : Nat} {o_cameFrom : Nat} (k_o : KM Z o 12) (r_o_cameBy : Z.2.1 o 30 = some o_cameBy) (k_o_cameBy : KM Z o_cameBy 13) (r_o_cameFrom : Z.2.1 o 29 = some o_cameFrom) (k_o_cameFrom : KM Z o_cameFrom 13) (h : ((u5 ≤ u2 → (vp_in u4 (Z.2.2.1 o_cameBy) ∧ (r = some (.int (I o_cameBy u4.toNatClampNeg)) ∧ M' = (Z, I, L)))) ∧ (¬ u5 ≤ u2 → (vp_in u4 (Z.2.2.1 o_cameFrom) ∧ (∀ y3 : Int32, y3 = (I o_cameFrom u4.toNatClampNeg) → (∀ y4 : Int32, y4 = (u5 + (-1)) → Lp_X12_tapsTo_53 g 1 o u2 y3 y4 (Z, I, L) r M')))))) : Lp_X12_tapsTo_53 g 1 o u2 u4 u5 (Z, I, L) r M' := by
  refine fr_iload (q := 3) rfl dX12_tapsTo_53 rfl ?_
  refine fr_iload_n (i := 2) (q := 1) rfl dX12_tapsTo_55 rfl ?_
  refine fr_icmp_le (tgt := 74) dX12_tapsTo_56 (by decide) rfl (fun hc => ?_) (fun hc => ?_)
  · have h := h.1 hc
    refine fr_aload_n (i := 0) (q := 0) rfl dX12_tapsTo_74 rfl ?_
    refine fr_getR dX12_tapsTo_75 rfl fl_X12_52 k_o r_o_cameBy ?_
    refine fr_iload (q := 2) rfl dX12_tapsTo_78 rfl ?_
    obtain ⟨hz1, h⟩ := h
    refine fr_iald dX12_tapsTo_80 rfl k_o_cameBy hz1 ?_
    exact fr_iret rfl dX12_tapsTo_81 h.1 h.2
  · have h := h.2 hc
    refine fr_aload_n (i := 0) (q := 0) rfl dX12_tapsTo_59 rfl ?_
    refine fr_getR dX12_tapsTo_60 rfl fl_X12_49 k_o r_o_cameFrom ?_
    refine fr_iload (q := 2) rfl dX12_tapsTo_63 rfl ?_
    obtain ⟨hz2, h⟩ := h
    refine fr_iald dX12_tapsTo_65 rfl k_o_cameFrom hz2 ?_
    refine fr_topi (fun y3 hy3 => ?_)
    have h := h y3 hy3
    refine fr_istore (lv' := [(4, .int y3), (0, rf g o), (2, .int u2), (5, .int u5)]) dX12_tapsTo_66 rfl (by decide) rfl ?_
    obtain ⟨y4, hy4⟩ : ∃ y : Int32, y = u5 + (-1) := ⟨_, rfl⟩
    have h := h y4 hy4
    refine fr_iinc (q := 3) (v := y4) (lv' := [(5, .int y4), (4, .int y3), (0, rf g o), (2, .int u2)]) rfl (by rw [hy4]; rfl) dX12_tapsTo_68 rfl (by decide) rfl ?_
    refine fr_goto (n := 53) dX12_tapsTo_71 (by decide) ?_
    exact fr_sub [2, 3, 1, 0] rfl h
abbrev Lp_X12_fewest_48 (g : GE) (d : Nat) (o : Nat) (u1 : Int32) (u2 : Int32) (u3 : Int32) (u4 : Int32) (u5 : Int32) (u6 : Int32) (M : Mem) (r : Option Value) (M' : Mem) : Prop := Fr g d mu_X12_fewest 48 [(0, rf g o), (1, .int u1), (2, .int u2), (3, .int u3), (4, .int u4), (5, .int u5), (6, .int u6)] [] M r M'
theorem cp_X12_fewest {g : GE} {Z : Zs} {I : Nat → Nat → Int32} {L : Nat → Nat → Int64} {r : Option Value} {M' : Mem} {o : Nat} {x1 : Int32} {x2 : Int32} {x3 : Int32} {x4 : Int32} {o_a : Nat} (k_o : KM Z o 12) (r_o_a : Z.2.1 o 0 = some o_a) (k_o_a : KM Z o_a 13) (h : (vp_in 1 (Z.2.2.1 o_a) ∧ (∃ (v2 : Int32), Cl g 1 mu_X12_isIn [.int x1, .int 1, .int ((1 <<< ((I o_a (1 : Int32).toNatClampNeg) &&& 31)) - 1)] (Z, I, L) (some (.int v2)) (Z, I, L) ∧ ((v2 = 0 → (r = some (.int ((-1))) ∧ M' = (Z, I, L))) ∧ (¬ v2 = 0 → (∃ (v4 : Int32), Cl g 2 mu_X12_isPose [rf g o, .int x2] (Z, I, L) (some (.int v4)) (Z, I, L) ∧ ((v4 = 0 → (r = some (.int ((-1))) ∧ M' = (Z, I, L))) ∧ (¬ v4 = 0 → (∃ (v6 : Int32), Cl g 2 mu_X12_isCell [rf g o, .int x3] (Z, I, L) (some (.int v6)) (Z, I, L) ∧ ((v6 = 0 → (r = some (.int ((-1))) ∧ M' = (Z, I, L))) ∧ (¬ v6 = 0 → ((((-1)) ≤ x4 → Lp_X12_fewest_48 g 8 o x1 x2 x3 x4 0 0 (Z, I, L) r M') ∧ (¬ ((-1)) ≤ x4 → (r = some (.int ((-1))) ∧ M' = (Z, I, L))))))))))))))) : Cl g 8 mu_X12_fewest [rf g o, .int x1, .int x2, .int x3, .int x4] (Z, I, L) r M' := by
  refine cl_of (lv := [(0, rf g o), (1, .int x1), (2, .int x2), (3, .int x3), (4, .int x4)]) (by decide) (Nat.le_of_ble_eq_true rfl) rfl ?_
  refine fr_iload_n (i := 1) (q := 1) rfl dX12_fewest_0 rfl ?_
  refine fr_iconst (v := 1) (by decide) dX12_fewest_1 rfl ?_
  refine fr_iconst (v := 1) (by decide) dX12_fewest_2 rfl ?_
  refine fr_aload_n (i := 0) (q := 0) rfl dX12_fewest_3 rfl ?_
  refine fr_getR dX12_fewest_4 rfl fl_X12_7 k_o r_o_a ?_
  refine fr_iconst (v := 1) (by decide) dX12_fewest_7 rfl ?_
  obtain ⟨hz1, h⟩ := h
  refine fr_iald dX12_fewest_8 rfl k_o_a hz1 ?_
  refine fr_ishl dX12_fewest_9 rfl ?_
  refine fr_iconst (v := 1) (by decide) dX12_fewest_10 rfl ?_
  refine fr_isub dX12_fewest_11 rfl ?_
  obtain ⟨v2, hc3, h⟩ := h
  refine fr_callS2 (ν := mu_X12_isIn) (st2 := [.int v2]) (As := [.int x1, .int 1, .int ((1 <<< ((I o_a (1 : Int32).toNatClampNeg) &&& 31)) - 1)]) (st := []) (v := (some (.int v2))) (M1 := (Z, I, L)) dX12_fewest_12 rfl ml_X12_95 mo_X12_isIn ms_X12_isIn (Nat.le_of_ble_eq_true rfl) rfl rfl (Nat.le_of_ble_eq_true rfl) hc3 rfl ?_
  refine fr_if_eq (tgt := 40) dX12_fewest_15 (by decide) rfl (fun hc => ?_) (fun hc => ?_)
  · have h := h.1 hc
    refine fr_iconst (v := (-1)) (by decide) dX12_fewest_40 rfl ?_
    exact fr_iret rfl dX12_fewest_41 h.1 h.2
  · have h := h.2 hc
    refine fr_aload_n (i := 0) (q := 0) rfl dX12_fewest_18 rfl ?_
    refine fr_iload_n (i := 2) (q := 2) rfl dX12_fewest_19 rfl ?_
    obtain ⟨v4, hc5, h⟩ := h
    refine fr_callV2 (ν := mu_X12_isPose) (st2 := [.int v4]) (As := [.int x2]) (st := []) (v := (some (.int v4))) (M1 := (Z, I, L)) dX12_fewest_20 rfl ml_X12_110 mo_X12_isPose mi_X12_isPose (ci := 12) rfl rfl k_o (Nat.le_of_ble_eq_true rfl) rfl rfl (Nat.le_of_ble_eq_true rfl) hc5 rfl ?_
    refine fr_if_eq (tgt := 40) dX12_fewest_23 (by decide) rfl (fun hc => ?_) (fun hc => ?_)
    · have h := h.1 hc
      refine fr_iconst (v := (-1)) (by decide) dX12_fewest_40 rfl ?_
      exact fr_iret rfl dX12_fewest_41 h.1 h.2
    · have h := h.2 hc
      refine fr_aload_n (i := 0) (q := 0) rfl dX12_fewest_26 rfl ?_
      refine fr_iload_n (i := 3) (q := 3) rfl dX12_fewest_27 rfl ?_
      obtain ⟨v6, hc7, h⟩ := h
      refine fr_callV2 (ν := mu_X12_isCell) (st2 := [.int v6]) (As := [.int x3]) (st := []) (v := (some (.int v6))) (M1 := (Z, I, L)) dX12_fewest_28 rfl ml_X12_103 mo_X12_isCell mi_X12_isCell (ci := 12) rfl rfl k_o (Nat.le_of_ble_eq_true rfl) rfl rfl (Nat.le_of_ble_eq_true rfl) hc7 rfl ?_
      refine fr_if_eq (tgt := 40) dX12_fewest_31 (by decide) rfl (fun hc => ?_) (fun hc => ?_)
      · have h := h.1 hc
        refine fr_iconst (v := (-1)) (by decide) dX12_fewest_40 rfl ?_
        exact fr_iret rfl dX12_fewest_41 h.1 h.2
      · have h := h.2 hc
        refine fr_iload (q := 4) rfl dX12_fewest_34 rfl ?_
        refine fr_iconst (v := (-1)) (by decide) dX12_fewest_36 rfl ?_
        refine fr_icmp_ge (tgt := 42) dX12_fewest_37 (by decide) rfl (fun hc => ?_) (fun hc => ?_)
        · have h := h.1 hc
          refine fr_iconst (v := 0) (by decide) dX12_fewest_42 rfl ?_
          refine fr_istore (lv' := [(5, .int 0), (0, rf g o), (1, .int x1), (2, .int x2), (3, .int x3), (4, .int x4)]) dX12_fewest_43 rfl (by decide) rfl ?_
          refine fr_iconst (v := 0) (by decide) dX12_fewest_45 rfl ?_
          refine fr_istore (lv' := [(6, .int 0), (5, .int 0), (0, rf g o), (1, .int x1), (2, .int x2), (3, .int x3), (4, .int x4)]) dX12_fewest_46 rfl (by decide) rfl ?_
          exact fr_sub [2, 3, 4, 5, 6, 1, 0] rfl h
        · have h := h.2 hc
          refine fr_iconst (v := (-1)) (by decide) dX12_fewest_40 rfl ?_
          exact fr_iret rfl dX12_fewest_41 h.1 h.2
abbrev Lp_X12_fewest_92 (g : GE) (d : Nat) (o : Nat) (u1 : Int32) (u2 : Int32) (u3 : Int32) (u4 : Int32) (u6 : Int32) (M : Mem) (r : Option Value) (M' : Mem) : Prop := Fr g d mu_X12_fewest 92 [(0, rf g o), (1, .int u1), (2, .int u2), (3, .int u3), (4, .int u4), (6, .int u6)] [] M r M'
theorem wp_X12_fewest_48 {g : GE} {Z : Zs} {I : Nat → Nat → Int32} {L : Nat → Nat → Int64} {r : Option Value} {M' : Mem} {o : Nat} {u1 : Int32} {u2 : Int32} {u3 : Int32} {u4 : Int32} {u5 : Int32} {u6 : Int32} {o_a : Nat} (k_o : KM Z o 12) (r_o_a : Z.2.1 o 0 = some o_a) (k_o_a : KM Z o_a 13) (h : (vp_in 1 (Z.2.2.1 o_a) ∧ (((I o_a (1 : Int32).toNatClampNeg) ≤ u6 → ((u5 ≤ 3 → (∀ I2 : Nat → Nat → Int32, I2 = rw1 I o (upd (I o) 34 0) → Lp_X12_fewest_92 g 8 o u1 u2 u3 u4 0 (Z, I2, L) r M')) ∧ (¬ u5 ≤ 3 → (r = some (.int ((-1))) ∧ M' = (Z, I, L))))) ∧ (¬ (I o_a (1 : Int32).toNatClampNeg) ≤ u6 → (∀ y3 : Int32, y3 = (u5 + ((u1 >>> (u6 &&& 31)) &&& 1)) → (∀ y4 : Int32, y4 = (u6 + 1) → Lp_X12_fewest_48 g 8 o u1 u2 u3 u4 y3 y4 (Z, I, L) r M')))))) : Lp_X12_fewest_48 g 8 o u1 u2 u3 u4 u5 u6 (Z, I, L) r M' := by
  refine fr_iload (q := 6) rfl dX12_fewest_48 rfl ?_
  refine fr_aload_n (i := 0) (q := 0) rfl dX12_fewest_50 rfl ?_
  refine fr_getR dX12_fewest_51 rfl fl_X12_7 k_o r_o_a ?_
  refine fr_iconst (v := 1) (by decide) dX12_fewest_54 rfl ?_
  obtain ⟨hz1, h⟩ := h
  refine fr_iald dX12_fewest_55 rfl k_o_a hz1 ?_
  refine fr_icmp_ge (tgt := 76) dX12_fewest_56 (by decide) rfl (fun hc => ?_) (fun hc => ?_)
  · have h := h.1 hc
    refine fr_iload (q := 5) rfl dX12_fewest_76 rfl ?_
    refine fr_iconst (v := 3) (by decide) dX12_fewest_78 rfl ?_
    refine fr_icmp_le (tgt := 84) dX12_fewest_79 (by decide) rfl (fun hc => ?_) (fun hc => ?_)
    · have h := h.1 hc
      refine fr_aload_n (i := 0) (q := 0) rfl dX12_fewest_84 rfl ?_
      refine fr_iconst (v := 0) (by decide) dX12_fewest_85 rfl ?_
      refine fr_putI dX12_fewest_86 rfl fp_X12_316 k_o ?_
      refine fr_memI (fun I2 hI2 => ?_)
      have h := h I2 hI2
      refine fr_iconst (v := 0) (by decide) dX12_fewest_89 rfl ?_
      refine fr_istore (lv' := [(6, .int 0), (0, rf g o), (1, .int u1), (2, .int u2), (3, .int u3), (4, .int u4), (5, .int u5)]) dX12_fewest_90 rfl (by decide) rfl ?_
      exact fr_sub [1, 2, 3, 4, 5, 0] rfl h
    · have h := h.2 hc
      refine fr_iconst (v := (-1)) (by decide) dX12_fewest_82 rfl ?_
      exact fr_iret rfl dX12_fewest_83 h.1 h.2
  · have h := h.2 hc
    refine fr_iload (q := 5) rfl dX12_fewest_59 rfl ?_
    refine fr_iload_n (i := 1) (q := 1) rfl dX12_fewest_61 rfl ?_
    refine fr_iload (q := 6) rfl dX12_fewest_62 rfl ?_
    refine fr_ishr dX12_fewest_64 rfl ?_
    refine fr_iconst (v := 1) (by decide) dX12_fewest_65 rfl ?_
    refine fr_iand dX12_fewest_66 rfl ?_
    refine fr_iadd dX12_fewest_67 rfl ?_
    refine fr_topi (fun y3 hy3 => ?_)
    have h := h y3 hy3
    refine fr_istore (lv' := [(5, .int y3), (0, rf g o), (1, .int u1), (2, .int u2), (3, .int u3), (4, .int u4), (6, .int u6)]) dX12_fewest_68 rfl (by decide) rfl ?_
    obtain ⟨y4, hy4⟩ : ∃ y : Int32, y = u6 + 1 := ⟨_, rfl⟩
    have h := h y4 hy4
    refine fr_iinc (q := 6) (v := y4) (lv' := [(6, .int y4), (5, .int y3), (0, rf g o), (1, .int u1), (2, .int u2), (3, .int u3), (4, .int u4)]) rfl (by rw [hy4]; rfl) dX12_fewest_70 rfl (by decide) rfl ?_
    refine fr_goto (n := 48) dX12_fewest_73 (by decide) ?_
    exact fr_sub [2, 3, 4, 5, 6, 1, 0] rfl h
theorem wp_X12_fewest_92 {g : GE} {Z : Zs} {I : Nat → Nat → Int32} {L : Nat → Nat → Int64} {r : Option Value} {M' : Mem} {o : Nat} {u1 : Int32} {u2 : Int32} {u3 : Int32} {u4 : Int32} {u6 : Int32} {o_a : Nat} {o_habits : Nat} (k_o : KM Z o 12) (r_o_a : Z.2.1 o 0 = some o_a) (k_o_a : KM Z o_a 13) (r_o_habits : Z.2.1 o 33 = some o_habits) (k_o_habits : KM Z o_habits 13) (h : (vp_in 1 (Z.2.2.1 o_a) ∧ (((I o_a (1 : Int32).toNatClampNeg) ≤ u6 → (∃ (v2 : Int32) (I3 : Nat → Nat → Int32) (L4 : Nat → Nat → Int64), Cl g 7 mu_X12_search [rf g o, .int u2, .int u3] (Z, I, L) (some (.int v2)) (Z, I3, L4) ∧ (∃ (v6 : Int32), Cl g 1 mu_X12_tapsTo [rf g o, .int v2, .int u4] (Z, I3, L4) (some (.int v6)) (Z, I3, L4) ∧ (r = some (.int v6) ∧ M' = (Z, I3, L4))))) ∧ (¬ (I o_a (1 : Int32).toNatClampNeg) ≤ u6 → ((¬ ((u1 >>> (u6 &&& 31)) &&& 1) = 0 → (vp_in (I o 34) (Z.2.2.1 o_habits) ∧ (∀ I9 : Nat → Nat → Int32, I9 = rw1 I o_habits (upd (I o_habits) (I o 34).toNatClampNeg u6) → (∀ I10 : Nat → Nat → Int32, I10 = rw1 I9 o (upd (I9 o) 34 ((I9 o 34) + 1)) → (∀ y11 : Int32, y11 = (u6 + 1) → Lp_X12_fewest_92 g 8 o u1 u2 u3 u4 y11 (Z, I10, L) r M'))))) ∧ (((u1 >>> (u6 &&& 31)) &&& 1) = 0 → (∀ y12 : Int32, y12 = (u6 + 1) → Lp_X12_fewest_92 g 8 o u1 u2 u3 u4 y12 (Z, I, L) r M'))))))) : Lp_X12_fewest_92 g 8 o u1 u2 u3 u4 u6 (Z, I, L) r M' := by
  refine fr_iload (q := 5) rfl dX12_fewest_92 rfl ?_
  refine fr_aload_n (i := 0) (q := 0) rfl dX12_fewest_94 rfl ?_
  refine fr_getR dX12_fewest_95 rfl fl_X12_7 k_o r_o_a ?_
  refine fr_iconst (v := 1) (by decide) dX12_fewest_98 rfl ?_
  obtain ⟨hz1, h⟩ := h
  refine fr_iald dX12_fewest_99 rfl k_o_a hz1 ?_
  refine fr_icmp_ge (tgt := 142) dX12_fewest_100 (by decide) rfl (fun hc => ?_) (fun hc => ?_)
  · have h := h.1 hc
    refine fr_aload_n (i := 0) (q := 0) rfl dX12_fewest_142 rfl ?_
    refine fr_aload_n (i := 0) (q := 0) rfl dX12_fewest_143 rfl ?_
    refine fr_iload_n (i := 2) (q := 2) rfl dX12_fewest_144 rfl ?_
    refine fr_iload_n (i := 3) (q := 3) rfl dX12_fewest_145 rfl ?_
    obtain ⟨v2, I3, L4, hc5, h⟩ := h
    refine fr_callV2 (ν := mu_X12_search) (st2 := [.int v2, rf g o]) (As := [.int u2, .int u3]) (st := [rf g o]) (v := (some (.int v2))) (M1 := (Z, I3, L4)) dX12_fewest_146 rfl ml_X12_336 mo_X12_search mi_X12_search (ci := 12) rfl rfl k_o (Nat.le_of_ble_eq_true rfl) rfl rfl (Nat.le_of_ble_eq_true rfl) hc5 rfl ?_
    refine fr_iload (q := 4) rfl dX12_fewest_149 rfl ?_
    obtain ⟨v6, hc7, h⟩ := h
    refine fr_callV2 (ν := mu_X12_tapsTo) (st2 := [.int v6]) (As := [.int v2, .int u4]) (st := []) (v := (some (.int v6))) (M1 := (Z, I3, L4)) dX12_fewest_151 rfl ml_X12_339 mo_X12_tapsTo mi_X12_tapsTo (ci := 12) rfl rfl k_o (Nat.le_of_ble_eq_true rfl) rfl rfl (Nat.le_of_ble_eq_true rfl) hc7 rfl ?_
    exact fr_iret rfl dX12_fewest_154 h.1 h.2
  · have h := h.2 hc
    refine fr_iload_n (i := 1) (q := 1) rfl dX12_fewest_103 rfl ?_
    refine fr_iload (q := 5) rfl dX12_fewest_104 rfl ?_
    refine fr_ishr dX12_fewest_106 rfl ?_
    refine fr_iconst (v := 1) (by decide) dX12_fewest_107 rfl ?_
    refine fr_iand dX12_fewest_108 rfl ?_
    refine fr_if_ne (tgt := 115) dX12_fewest_109 (by decide) rfl (fun hc => ?_) (fun hc => ?_)
    · have h := h.1 hc
      refine fr_aload_n (i := 0) (q := 0) rfl dX12_fewest_115 rfl ?_
      refine fr_getR dX12_fewest_116 rfl fl_X12_61 k_o r_o_habits ?_
      refine fr_aload_n (i := 0) (q := 0) rfl dX12_fewest_119 rfl ?_
      refine fr_getI dX12_fewest_120 rfl fl_X12_316 k_o ?_
      refine fr_iload (q := 5) rfl dX12_fewest_123 rfl ?_
      obtain ⟨hz8, h⟩ := h
      refine fr_iast dX12_fewest_125 rfl k_o_habits hz8 ?_
      refine fr_memI (fun I9 hI9 => ?_)
      have h := h I9 hI9
      refine fr_aload_n (i := 0) (q := 0) rfl dX12_fewest_126 rfl ?_
      refine fr_dup rfl dX12_fewest_127 rfl ?_
      refine fr_getI dX12_fewest_128 rfl fl_X12_316 k_o ?_
      refine fr_iconst (v := 1) (by decide) dX12_fewest_131 rfl ?_
      refine fr_iadd dX12_fewest_132 rfl ?_
      refine fr_putI dX12_fewest_133 rfl fp_X12_316 k_o ?_
      refine fr_memI (fun I10 hI10 => ?_)
      have h := h I10 hI10
      obtain ⟨y11, hy11⟩ : ∃ y : Int32, y = u6 + 1 := ⟨_, rfl⟩
      have h := h y11 hy11
      refine fr_iinc (q := 5) (v := y11) (lv' := [(6, .int y11), (0, rf g o), (1, .int u1), (2, .int u2), (3, .int u3), (4, .int u4)]) rfl (by rw [hy11]; rfl) dX12_fewest_136 rfl (by decide) rfl ?_
      refine fr_goto (n := 92) dX12_fewest_139 (by decide) ?_
      exact fr_sub [1, 2, 3, 4, 5, 0] rfl h
    · have h := h.2 hc
      refine fr_goto (n := 136) dX12_fewest_112 (by decide) ?_
      obtain ⟨y12, hy12⟩ : ∃ y : Int32, y = u6 + 1 := ⟨_, rfl⟩
      have h := h y12 hy12
      refine fr_iinc (q := 5) (v := y12) (lv' := [(6, .int y12), (0, rf g o), (1, .int u1), (2, .int u2), (3, .int u3), (4, .int u4)]) rfl (by rw [hy12]; rfl) dX12_fewest_136 rfl (by decide) rfl ?_
      refine fr_goto (n := 92) dX12_fewest_139 (by decide) ?_
      exact fr_sub [1, 2, 3, 4, 5, 0] rfl h
theorem cp_X12_tells {g : GE} {Z : Zs} {I : Nat → Nat → Int32} {L : Nat → Nat → Int64} {r : Option Value} {M' : Mem} {o : Nat} {x1 : Int32} {x2 : Int32} {x3 : Int32} {x4 : Int32} {o_habits : Nat} (k_o : KM Z o 12) (r_o_habits : Z.2.1 o 33 = some o_habits) (k_o_habits : KM Z o_habits 13) (h : (∃ (v1 : Int32), Cl g 2 mu_X12_isText [rf g o, .int x1] (Z, I, L) (some (.int v1)) (Z, I, L) ∧ ((v1 = 0 → (r = some (.int ((-1))) ∧ M' = (Z, I, L))) ∧ (¬ v1 = 0 → (∃ (v3 : Int32), Cl g 2 mu_X12_isText [rf g o, .int x2] (Z, I, L) (some (.int v3)) (Z, I, L) ∧ ((v3 = 0 → (r = some (.int ((-1))) ∧ M' = (Z, I, L))) ∧ (¬ v3 = 0 → (∃ (v5 : Int32), Cl g 2 mu_X12_isPose [rf g o, .int x3] (Z, I, L) (some (.int v5)) (Z, I, L) ∧ ((v5 = 0 → (r = some (.int ((-1))) ∧ M' = (Z, I, L))) ∧ (¬ v5 = 0 → ((((-1)) ≤ x4 → (vp_in 0 (Z.2.2.1 o_habits) ∧ (∀ I8 : Nat → Nat → Int32, I8 = rw1 I o_habits (upd (I o_habits) (0 : Int32).toNatClampNeg x1) → (vp_in 1 (Z.2.2.1 o_habits) ∧ (∀ I10 : Nat → Nat → Int32, I10 = rw1 I8 o_habits (upd (I8 o_habits) (1 : Int32).toNatClampNeg x2) → (∀ I11 : Nat → Nat → Int32, I11 = rw1 I10 o (upd (I10 o) 34 2) → (∃ (v12 : Int32) (I13 : Nat → Nat → Int32) (L14 : Nat → Nat → Int64), Cl g 7 mu_X12_search [rf g o, .int x3, .int ((-1))] (Z, I11, L) (some (.int v12)) (Z, I13, L14) ∧ (∃ (v16 : Int32), Cl g 1 mu_X12_tapsTo [rf g o, .int v12, .int x4] (Z, I13, L14) (some (.int v16)) (Z, I13, L14) ∧ (r = some (.int v16) ∧ M' = (Z, I13, L14)))))))))) ∧ (¬ ((-1)) ≤ x4 → (r = some (.int ((-1))) ∧ M' = (Z, I, L)))))))))))))) : Cl g 8 mu_X12_tells [rf g o, .int x1, .int x2, .int x3, .int x4] (Z, I, L) r M' := by
  refine cl_of (lv := [(0, rf g o), (1, .int x1), (2, .int x2), (3, .int x3), (4, .int x4)]) (by decide) (Nat.le_of_ble_eq_true rfl) rfl ?_
  refine fr_aload_n (i := 0) (q := 0) rfl dX12_tells_0 rfl ?_
  refine fr_iload_n (i := 1) (q := 1) rfl dX12_tells_1 rfl ?_
  obtain ⟨v1, hc2, h⟩ := h
  refine fr_callV2 (ν := mu_X12_isText) (st2 := [.int v1]) (As := [.int x1]) (st := []) (v := (some (.int v1))) (M1 := (Z, I, L)) dX12_tells_2 rfl ml_X12_113 mo_X12_isText mi_X12_isText (ci := 12) rfl rfl k_o (Nat.le_of_ble_eq_true rfl) rfl rfl (Nat.le_of_ble_eq_true rfl) hc2 rfl ?_
  refine fr_if_eq (tgt := 30) dX12_tells_5 (by decide) rfl (fun hc => ?_) (fun hc => ?_)
  · have h := h.1 hc
    refine fr_iconst (v := (-1)) (by decide) dX12_tells_30 rfl ?_
    exact fr_iret rfl dX12_tells_31 h.1 h.2
  · have h := h.2 hc
    refine fr_aload_n (i := 0) (q := 0) rfl dX12_tells_8 rfl ?_
    refine fr_iload_n (i := 2) (q := 2) rfl dX12_tells_9 rfl ?_
    obtain ⟨v3, hc4, h⟩ := h
    refine fr_callV2 (ν := mu_X12_isText) (st2 := [.int v3]) (As := [.int x2]) (st := []) (v := (some (.int v3))) (M1 := (Z, I, L)) dX12_tells_10 rfl ml_X12_113 mo_X12_isText mi_X12_isText (ci := 12) rfl rfl k_o (Nat.le_of_ble_eq_true rfl) rfl rfl (Nat.le_of_ble_eq_true rfl) hc4 rfl ?_
    refine fr_if_eq (tgt := 30) dX12_tells_13 (by decide) rfl (fun hc => ?_) (fun hc => ?_)
    · have h := h.1 hc
      refine fr_iconst (v := (-1)) (by decide) dX12_tells_30 rfl ?_
      exact fr_iret rfl dX12_tells_31 h.1 h.2
    · have h := h.2 hc
      refine fr_aload_n (i := 0) (q := 0) rfl dX12_tells_16 rfl ?_
      refine fr_iload_n (i := 3) (q := 3) rfl dX12_tells_17 rfl ?_
      obtain ⟨v5, hc6, h⟩ := h
      refine fr_callV2 (ν := mu_X12_isPose) (st2 := [.int v5]) (As := [.int x3]) (st := []) (v := (some (.int v5))) (M1 := (Z, I, L)) dX12_tells_18 rfl ml_X12_110 mo_X12_isPose mi_X12_isPose (ci := 12) rfl rfl k_o (Nat.le_of_ble_eq_true rfl) rfl rfl (Nat.le_of_ble_eq_true rfl) hc6 rfl ?_
      refine fr_if_eq (tgt := 30) dX12_tells_21 (by decide) rfl (fun hc => ?_) (fun hc => ?_)
      · have h := h.1 hc
        refine fr_iconst (v := (-1)) (by decide) dX12_tells_30 rfl ?_
        exact fr_iret rfl dX12_tells_31 h.1 h.2
      · have h := h.2 hc
        refine fr_iload (q := 4) rfl dX12_tells_24 rfl ?_
        refine fr_iconst (v := (-1)) (by decide) dX12_tells_26 rfl ?_
        refine fr_icmp_ge (tgt := 32) dX12_tells_27 (by decide) rfl (fun hc => ?_) (fun hc => ?_)
        · have h := h.1 hc
          refine fr_aload_n (i := 0) (q := 0) rfl dX12_tells_32 rfl ?_
          refine fr_getR dX12_tells_33 rfl fl_X12_61 k_o r_o_habits ?_
          refine fr_iconst (v := 0) (by decide) dX12_tells_36 rfl ?_
          refine fr_iload_n (i := 1) (q := 1) rfl dX12_tells_37 rfl ?_
          obtain ⟨hz7, h⟩ := h
          refine fr_iast dX12_tells_38 rfl k_o_habits hz7 ?_
          refine fr_memI (fun I8 hI8 => ?_)
          have h := h I8 hI8
          refine fr_aload_n (i := 0) (q := 0) rfl dX12_tells_39 rfl ?_
          refine fr_getR dX12_tells_40 rfl fl_X12_61 k_o r_o_habits ?_
          refine fr_iconst (v := 1) (by decide) dX12_tells_43 rfl ?_
          refine fr_iload_n (i := 2) (q := 2) rfl dX12_tells_44 rfl ?_
          obtain ⟨hz9, h⟩ := h
          refine fr_iast dX12_tells_45 rfl k_o_habits hz9 ?_
          refine fr_memI (fun I10 hI10 => ?_)
          have h := h I10 hI10
          refine fr_aload_n (i := 0) (q := 0) rfl dX12_tells_46 rfl ?_
          refine fr_iconst (v := 2) (by decide) dX12_tells_47 rfl ?_
          refine fr_putI dX12_tells_48 rfl fp_X12_316 k_o ?_
          refine fr_memI (fun I11 hI11 => ?_)
          have h := h I11 hI11
          refine fr_aload_n (i := 0) (q := 0) rfl dX12_tells_51 rfl ?_
          refine fr_aload_n (i := 0) (q := 0) rfl dX12_tells_52 rfl ?_
          refine fr_iload_n (i := 3) (q := 3) rfl dX12_tells_53 rfl ?_
          refine fr_iconst (v := (-1)) (by decide) dX12_tells_54 rfl ?_
          obtain ⟨v12, I13, L14, hc15, h⟩ := h
          refine fr_callV2 (ν := mu_X12_search) (st2 := [.int v12, rf g o]) (As := [.int x3, .int ((-1))]) (st := [rf g o]) (v := (some (.int v12))) (M1 := (Z, I13, L14)) dX12_tells_55 rfl ml_X12_336 mo_X12_search mi_X12_search (ci := 12) rfl rfl k_o (Nat.le_of_ble_eq_true rfl) rfl rfl (Nat.le_of_ble_eq_true rfl) hc15 rfl ?_
          refine fr_iload (q := 4) rfl dX12_tells_58 rfl ?_
          obtain ⟨v16, hc17, h⟩ := h
          refine fr_callV2 (ν := mu_X12_tapsTo) (st2 := [.int v16]) (As := [.int v12, .int x4]) (st := []) (v := (some (.int v16))) (M1 := (Z, I13, L14)) dX12_tells_60 rfl ml_X12_339 mo_X12_tapsTo mi_X12_tapsTo (ci := 12) rfl rfl k_o (Nat.le_of_ble_eq_true rfl) rfl rfl (Nat.le_of_ble_eq_true rfl) hc17 rfl ?_
          exact fr_iret rfl dX12_tells_63 h.1 h.2
        · have h := h.2 hc
          refine fr_iconst (v := (-1)) (by decide) dX12_tells_30 rfl ?_
          exact fr_iret rfl dX12_tells_31 h.1 h.2
abbrev Lp_X12_common_6 (g : GE) (d : Nat) (u4 : Int64) (u6 : Int64) (M : Mem) (r : Option Value) (M' : Mem) : Prop := Fr g d mu_X12_common 6 [(4, .long u4), (6, .long u6)] [] M r M'
theorem cp_X12_common {g : GE} {Z : Zs} {I : Nat → Nat → Int32} {L : Nat → Nat → Int64} {r : Option Value} {M' : Mem} {x0 : Int64} {x2 : Int64}  (h : Lp_X12_common_6 g 1 x0 x2 (Z, I, L) r M') : Cl g 1 mu_X12_common [.long x0, .long x2] (Z, I, L) r M' := by
  refine cl_of (lv := [(0, .long x0), (2, .long x2)]) (by decide) (Nat.le_of_ble_eq_true rfl) rfl ?_
  refine fr_lload_n (i := 0) (q := 0) rfl dX12_common_0 rfl ?_
  refine fr_lstore (lv' := [(4, .long x0), (0, .long x0), (2, .long x2)]) dX12_common_1 rfl (by decide) rfl ?_
  refine fr_lload_n (i := 2) (q := 2) rfl dX12_common_3 rfl ?_
  refine fr_lstore (lv' := [(6, .long x2), (4, .long x0), (0, .long x0), (2, .long x2)]) dX12_common_4 rfl (by decide) rfl ?_
  exact fr_sub [1, 0] rfl h
theorem wp_X12_common_6 {g : GE} {Z : Zs} {I : Nat → Nat → Int32} {L : Nat → Nat → Int64} {r : Option Value} {M' : Mem} {u4 : Int64} {u6 : Int64}  (h : (((lg_cmp u6 0) = 0 → (r = some (.long u4) ∧ M' = (Z, I, L))) ∧ (¬ (lg_cmp u6 0) = 0 → (¬ u6 = 0 ∧ (∀ y2 : Int64, y2 = (u4 - u4 / u6 * u6) → Lp_X12_common_6 g 1 u6 y2 (Z, I, L) r M'))))) : Lp_X12_common_6 g 1 u4 u6 (Z, I, L) r M' := by
  refine fr_lload (q := 1) rfl dX12_common_6 rfl ?_
  refine fr_lconst (v := 0) (by decide) dX12_common_8 rfl ?_
  refine fr_lcmp dX12_common_9 rfl ?_
  refine fr_if_eq (tgt := 31) dX12_common_10 (by decide) rfl (fun hc => ?_) (fun hc => ?_)
  · have h := h.1 hc
    refine fr_lload (q := 0) rfl dX12_common_31 rfl ?_
    exact fr_lret rfl dX12_common_33 h.1 h.2
  · have h := h.2 hc
    refine fr_lload (q := 0) rfl dX12_common_13 rfl ?_
    refine fr_lload (q := 1) rfl dX12_common_15 rfl ?_
    obtain ⟨hz1, h⟩ := h
    refine fr_lrem hz1 dX12_common_17 rfl ?_
    refine fr_topl (fun y2 hy2 => ?_)
    have h := h y2 hy2
    refine fr_lstore (lv' := [(8, .long y2), (4, .long u4), (6, .long u6)]) dX12_common_18 rfl (by decide) rfl ?_
    refine fr_lload (q := 2) rfl dX12_common_20 rfl ?_
    refine fr_lstore (lv' := [(4, .long u6), (8, .long y2), (6, .long u6)]) dX12_common_22 rfl (by decide) rfl ?_
    refine fr_lload (q := 1) rfl dX12_common_24 rfl ?_
    refine fr_lstore (lv' := [(6, .long y2), (4, .long u6), (8, .long y2)]) dX12_common_26 rfl (by decide) rfl ?_
    refine fr_goto (n := 6) dX12_common_28 (by decide) ?_
    exact fr_sub [1, 0] rfl h
abbrev Lp_X12_odds_68 (g : GE) (d : Nat) (o : Nat) (u1 : Int32) (u2 : Int32) (u3 : Int32) (u4 : Int32) (u5 : Int32) (u6 : Int32) (M : Mem) (r : Option Value) (M' : Mem) : Prop := Fr g d mu_X12_odds 68 [(0, rf g o), (1, .int u1), (2, .int u2), (3, .int u3), (4, .int u4), (5, .int u5), (6, .int u6)] [] M r M'
theorem cp_X12_odds {g : GE} {Z : Zs} {I : Nat → Nat → Int32} {L : Nat → Nat → Int64} {r : Option Value} {M' : Mem} {o : Nat} {x1 : Int32} {x2 : Int32} {x3 : Int32} {x4 : Int32} {x5 : Int32} {o_a : Nat} (k_o : KM Z o 12) (r_o_a : Z.2.1 o 0 = some o_a) (k_o_a : KM Z o_a 13) (h : (∃ (v1 : Int32), Cl g 2 mu_X12_isText [rf g o, .int x1] (Z, I, L) (some (.int v1)) (Z, I, L) ∧ ((v1 = 0 → (r = some (.long ((-1))) ∧ M' = (Z, I, L))) ∧ (¬ v1 = 0 → (∃ (v3 : Int32), Cl g 2 mu_X12_isPose [rf g o, .int x2] (Z, I, L) (some (.int v3)) (Z, I, L) ∧ ((v3 = 0 → (r = some (.long ((-1))) ∧ M' = (Z, I, L))) ∧ (¬ v3 = 0 → (∃ (v5 : Int32), Cl g 2 mu_X12_isCell [rf g o, .int x3] (Z, I, L) (some (.int v5)) (Z, I, L) ∧ ((v5 = 0 → (r = some (.long ((-1))) ∧ M' = (Z, I, L))) ∧ (¬ v5 = 0 → (∃ (v7 : Int32), Cl g 1 mu_X12_isIn [.int x4, .int 0, .int 10] (Z, I, L) (some (.int v7)) (Z, I, L) ∧ ((v7 = 0 → (r = some (.long ((-1))) ∧ M' = (Z, I, L))) ∧ (¬ v7 = 0 → (∃ (v9 : Int32), Cl g 1 mu_X12_isIn [.int x5, .int 0, .int 1] (Z, I, L) (some (.int v9)) (Z, I, L) ∧ ((v9 = 0 → (r = some (.long ((-1))) ∧ M' = (Z, I, L))) ∧ (¬ v9 = 0 → (vp_in 2 (Z.2.2.1 o_a) ∧ (((I o_a (2 : Int32).toNatClampNeg) ≤ 12 → (∃ (I12 : Nat → Nat → Int32) (L13 : Nat → Nat → Int64), Cl g 6 mu_X12_lay [rf g o, .int x1] (Z, I, L) none (Z, I12, L13) ∧ Lp_X12_odds_68 g 7 o x1 x2 x3 x4 x5 0 (Z, I12, L13) r M')) ∧ (¬ (I o_a (2 : Int32).toNatClampNeg) ≤ 12 → (r = some (.long ((-1))) ∧ M' = (Z, I, L))))))))))))))))))))) : Cl g 7 mu_X12_odds [rf g o, .int x1, .int x2, .int x3, .int x4, .int x5] (Z, I, L) r M' := by
  refine cl_of (lv := [(0, rf g o), (1, .int x1), (2, .int x2), (3, .int x3), (4, .int x4), (5, .int x5)]) (by decide) (Nat.le_of_ble_eq_true rfl) rfl ?_
  refine fr_aload_n (i := 0) (q := 0) rfl dX12_odds_0 rfl ?_
  refine fr_iload_n (i := 1) (q := 1) rfl dX12_odds_1 rfl ?_
  obtain ⟨v1, hc2, h⟩ := h
  refine fr_callV2 (ν := mu_X12_isText) (st2 := [.int v1]) (As := [.int x1]) (st := []) (v := (some (.int v1))) (M1 := (Z, I, L)) dX12_odds_2 rfl ml_X12_113 mo_X12_isText mi_X12_isText (ci := 12) rfl rfl k_o (Nat.le_of_ble_eq_true rfl) rfl rfl (Nat.le_of_ble_eq_true rfl) hc2 rfl ?_
  refine fr_if_eq (tgt := 56) dX12_odds_5 (by decide) rfl (fun hc => ?_) (fun hc => ?_)
  · have h := h.1 hc
    refine fr_ldc2 (v := (-1)) kc_X12_342 dX12_odds_56 rfl ?_
    exact fr_lret rfl dX12_odds_59 h.1 h.2
  · have h := h.2 hc
    refine fr_aload_n (i := 0) (q := 0) rfl dX12_odds_8 rfl ?_
    refine fr_iload_n (i := 2) (q := 2) rfl dX12_odds_9 rfl ?_
    obtain ⟨v3, hc4, h⟩ := h
    refine fr_callV2 (ν := mu_X12_isPose) (st2 := [.int v3]) (As := [.int x2]) (st := []) (v := (some (.int v3))) (M1 := (Z, I, L)) dX12_odds_10 rfl ml_X12_110 mo_X12_isPose mi_X12_isPose (ci := 12) rfl rfl k_o (Nat.le_of_ble_eq_true rfl) rfl rfl (Nat.le_of_ble_eq_true rfl) hc4 rfl ?_
    refine fr_if_eq (tgt := 56) dX12_odds_13 (by decide) rfl (fun hc => ?_) (fun hc => ?_)
    · have h := h.1 hc
      refine fr_ldc2 (v := (-1)) kc_X12_342 dX12_odds_56 rfl ?_
      exact fr_lret rfl dX12_odds_59 h.1 h.2
    · have h := h.2 hc
      refine fr_aload_n (i := 0) (q := 0) rfl dX12_odds_16 rfl ?_
      refine fr_iload_n (i := 3) (q := 3) rfl dX12_odds_17 rfl ?_
      obtain ⟨v5, hc6, h⟩ := h
      refine fr_callV2 (ν := mu_X12_isCell) (st2 := [.int v5]) (As := [.int x3]) (st := []) (v := (some (.int v5))) (M1 := (Z, I, L)) dX12_odds_18 rfl ml_X12_103 mo_X12_isCell mi_X12_isCell (ci := 12) rfl rfl k_o (Nat.le_of_ble_eq_true rfl) rfl rfl (Nat.le_of_ble_eq_true rfl) hc6 rfl ?_
      refine fr_if_eq (tgt := 56) dX12_odds_21 (by decide) rfl (fun hc => ?_) (fun hc => ?_)
      · have h := h.1 hc
        refine fr_ldc2 (v := (-1)) kc_X12_342 dX12_odds_56 rfl ?_
        exact fr_lret rfl dX12_odds_59 h.1 h.2
      · have h := h.2 hc
        refine fr_iload (q := 4) rfl dX12_odds_24 rfl ?_
        refine fr_iconst (v := 0) (by decide) dX12_odds_26 rfl ?_
        refine fr_bipush (v := 10) (by decide) dX12_odds_27 rfl ?_
        obtain ⟨v7, hc8, h⟩ := h
        refine fr_callS2 (ν := mu_X12_isIn) (st2 := [.int v7]) (As := [.int x4, .int 0, .int 10]) (st := []) (v := (some (.int v7))) (M1 := (Z, I, L)) dX12_odds_29 rfl ml_X12_95 mo_X12_isIn ms_X12_isIn (Nat.le_of_ble_eq_true rfl) rfl rfl (Nat.le_of_ble_eq_true rfl) hc8 rfl ?_
        refine fr_if_eq (tgt := 56) dX12_odds_32 (by decide) rfl (fun hc => ?_) (fun hc => ?_)
        · have h := h.1 hc
          refine fr_ldc2 (v := (-1)) kc_X12_342 dX12_odds_56 rfl ?_
          exact fr_lret rfl dX12_odds_59 h.1 h.2
        · have h := h.2 hc
          refine fr_iload (q := 5) rfl dX12_odds_35 rfl ?_
          refine fr_iconst (v := 0) (by decide) dX12_odds_37 rfl ?_
          refine fr_iconst (v := 1) (by decide) dX12_odds_38 rfl ?_
          obtain ⟨v9, hc10, h⟩ := h
          refine fr_callS2 (ν := mu_X12_isIn) (st2 := [.int v9]) (As := [.int x5, .int 0, .int 1]) (st := []) (v := (some (.int v9))) (M1 := (Z, I, L)) dX12_odds_39 rfl ml_X12_95 mo_X12_isIn ms_X12_isIn (Nat.le_of_ble_eq_true rfl) rfl rfl (Nat.le_of_ble_eq_true rfl) hc10 rfl ?_
          refine fr_if_eq (tgt := 56) dX12_odds_42 (by decide) rfl (fun hc => ?_) (fun hc => ?_)
          · have h := h.1 hc
            refine fr_ldc2 (v := (-1)) kc_X12_342 dX12_odds_56 rfl ?_
            exact fr_lret rfl dX12_odds_59 h.1 h.2
          · have h := h.2 hc
            refine fr_aload_n (i := 0) (q := 0) rfl dX12_odds_45 rfl ?_
            refine fr_getR dX12_odds_46 rfl fl_X12_7 k_o r_o_a ?_
            refine fr_iconst (v := 2) (by decide) dX12_odds_49 rfl ?_
            obtain ⟨hz11, h⟩ := h
            refine fr_iald dX12_odds_50 rfl k_o_a hz11 ?_
            refine fr_bipush (v := 12) (by decide) dX12_odds_51 rfl ?_
            refine fr_icmp_le (tgt := 60) dX12_odds_53 (by decide) rfl (fun hc => ?_) (fun hc => ?_)
            · have h := h.1 hc
              refine fr_aload_n (i := 0) (q := 0) rfl dX12_odds_60 rfl ?_
              refine fr_iload_n (i := 1) (q := 1) rfl dX12_odds_61 rfl ?_
              obtain ⟨I12, L13, hc14, h⟩ := h
              refine fr_callV2 (ν := mu_X12_lay) (st2 := []) (As := [.int x1]) (st := []) (v := none) (M1 := (Z, I12, L13)) dX12_odds_62 rfl ml_X12_322 mo_X12_lay mi_X12_lay (ci := 12) rfl rfl k_o (Nat.le_of_ble_eq_true rfl) rfl rfl (Nat.le_of_ble_eq_true rfl) hc14 rfl ?_
              refine fr_iconst (v := 0) (by decide) dX12_odds_65 rfl ?_
              refine fr_istore (lv' := [(6, .int 0), (0, rf g o), (1, .int x1), (2, .int x2), (3, .int x3), (4, .int x4), (5, .int x5)]) dX12_odds_66 rfl (by decide) rfl ?_
              exact fr_sub [1, 2, 3, 4, 5, 6, 0] rfl h
            · have h := h.2 hc
              refine fr_ldc2 (v := (-1)) kc_X12_342 dX12_odds_56 rfl ?_
              exact fr_lret rfl dX12_odds_59 h.1 h.2
abbrev Lp_X12_odds_105 (g : GE) (d : Nat) (o : Nat) (u1 : Int32) (u3 : Int32) (u4 : Int32) (u5 : Int32) (u6 : Int64) (u8 : Int32) (M : Mem) (r : Option Value) (M' : Mem) : Prop := Fr g d mu_X12_odds 105 [(0, rf g o), (1, .int u1), (3, .int u3), (4, .int u4), (5, .int u5), (6, .long u6), (8, .int u8)] [] M r M'
theorem wp_X12_odds_68 {g : GE} {Z : Zs} {I : Nat → Nat → Int32} {L : Nat → Nat → Int64} {r : Option Value} {M' : Mem} {o : Nat} {u1 : Int32} {u2 : Int32} {u3 : Int32} {u4 : Int32} {u5 : Int32} {u6 : Int32} {o_ways : Nat} (k_o : KM Z o 12) (r_o_ways : Z.2.1 o 36 = some o_ways) (k_o_ways : KM Z o_ways 14) (h : ((100 ≤ u6 → Lp_X12_odds_105 g 7 o u1 u3 u4 u5 1 0 (Z, I, L) r M') ∧ (¬ 100 ≤ u6 → ((¬ u6 = u2 → (vp_in u6 (Z.2.2.1 o_ways) ∧ (∀ L2 : Nat → Nat → Int64, L2 = rw1 L o_ways (vp_updL (L o_ways) u6.toNatClampNeg 0) → (∀ y3 : Int32, y3 = (u6 + 1) → Lp_X12_odds_68 g 7 o u1 u2 u3 u4 u5 y3 (Z, I, L2) r M')))) ∧ (u6 = u2 → (vp_in u6 (Z.2.2.1 o_ways) ∧ (∀ L5 : Nat → Nat → Int64, L5 = rw1 L o_ways (vp_updL (L o_ways) u6.toNatClampNeg 1) → (∀ y6 : Int32, y6 = (u6 + 1) → Lp_X12_odds_68 g 7 o u1 u2 u3 u4 u5 y6 (Z, I, L5) r M')))))))) : Lp_X12_odds_68 g 7 o u1 u2 u3 u4 u5 u6 (Z, I, L) r M' := by
  refine fr_iload (q := 6) rfl dX12_odds_68 rfl ?_
  refine fr_bipush (v := 100) (by decide) dX12_odds_70 rfl ?_
  refine fr_icmp_ge (tgt := 99) dX12_odds_72 (by decide) rfl (fun hc => ?_) (fun hc => ?_)
  · have h := h.1 hc
    refine fr_lconst (v := 1) (by decide) dX12_odds_99 rfl ?_
    refine fr_lstore (lv' := [(6, .long 1), (0, rf g o), (1, .int u1), (2, .int u2), (3, .int u3), (4, .int u4), (5, .int u5)]) dX12_odds_100 rfl (by decide) rfl ?_
    refine fr_iconst (v := 0) (by decide) dX12_odds_102 rfl ?_
    refine fr_istore (lv' := [(8, .int 0), (6, .long 1), (0, rf g o), (1, .int u1), (2, .int u2), (3, .int u3), (4, .int u4), (5, .int u5)]) dX12_odds_103 rfl (by decide) rfl ?_
    exact fr_sub [2, 3, 5, 6, 7, 1, 0] rfl h
  · have h := h.2 hc
    refine fr_aload_n (i := 0) (q := 0) rfl dX12_odds_75 rfl ?_
    refine fr_getR dX12_odds_76 rfl fl_X12_64 k_o r_o_ways ?_
    refine fr_iload (q := 6) rfl dX12_odds_79 rfl ?_
    refine fr_iload (q := 6) rfl dX12_odds_81 rfl ?_
    refine fr_iload_n (i := 2) (q := 2) rfl dX12_odds_83 rfl ?_
    refine fr_icmp_ne (tgt := 91) dX12_odds_84 (by decide) rfl (fun hc => ?_) (fun hc => ?_)
    · have h := h.1 hc
      refine fr_lconst (v := 0) (by decide) dX12_odds_91 rfl ?_
      obtain ⟨hz1, h⟩ := h
      refine fr_last dX12_odds_92 rfl k_o_ways hz1 ?_
      refine fr_memL (fun L2 hL2 => ?_)
      have h := h L2 hL2
      obtain ⟨y3, hy3⟩ : ∃ y : Int32, y = u6 + 1 := ⟨_, rfl⟩
      have h := h y3 hy3
      refine fr_iinc (q := 6) (v := y3) (lv' := [(6, .int y3), (0, rf g o), (1, .int u1), (2, .int u2), (3, .int u3), (4, .int u4), (5, .int u5)]) rfl (by rw [hy3]; rfl) dX12_odds_93 rfl (by decide) rfl ?_
      refine fr_goto (n := 68) dX12_odds_96 (by decide) ?_
      exact fr_sub [1, 2, 3, 4, 5, 6, 0] rfl h
    · have h := h.2 hc
      refine fr_lconst (v := 1) (by decide) dX12_odds_87 rfl ?_
      refine fr_goto (n := 92) dX12_odds_88 (by decide) ?_
      obtain ⟨hz4, h⟩ := h
      refine fr_last dX12_odds_92 rfl k_o_ways hz4 ?_
      refine fr_memL (fun L5 hL5 => ?_)
      have h := h L5 hL5
      obtain ⟨y6, hy6⟩ : ∃ y : Int32, y = u6 + 1 := ⟨_, rfl⟩
      have h := h y6 hy6
      refine fr_iinc (q := 6) (v := y6) (lv' := [(6, .int y6), (0, rf g o), (1, .int u1), (2, .int u2), (3, .int u3), (4, .int u4), (5, .int u5)]) rfl (by rw [hy6]; rfl) dX12_odds_93 rfl (by decide) rfl ?_
      refine fr_goto (n := 68) dX12_odds_96 (by decide) ?_
      exact fr_sub [1, 2, 3, 4, 5, 6, 0] rfl h
abbrev Lp_X12_odds_296 (g : GE) (d : Nat) (o : Nat) (u3 : Int32) (u5 : Int32) (u6 : Int64) (u8 : Int64) (u10 : Int32) (M : Mem) (r : Option Value) (M' : Mem) : Prop := Fr g d mu_X12_odds 296 [(0, rf g o), (3, .int u3), (5, .int u5), (6, .long u6), (8, .long u8), (10, .int u10)] [] M r M'
abbrev Lp_X12_odds_131 (g : GE) (d : Nat) (o : Nat) (u1 : Int32) (u3 : Int32) (u4 : Int32) (u5 : Int32) (u6 : Int64) (u8 : Int32) (u9 : Int32) (u10 : Int32) (M : Mem) (r : Option Value) (M' : Mem) : Prop := Fr g d mu_X12_odds 131 [(0, rf g o), (1, .int u1), (3, .int u3), (4, .int u4), (5, .int u5), (6, .long u6), (8, .int u8), (9, .int u9), (10, .int u10)] [] M r M'
theorem wp_X12_odds_105 {g : GE} {Z : Zs} {I : Nat → Nat → Int32} {L : Nat → Nat → Int64} {r : Option Value} {M' : Mem} {o : Nat} {u1 : Int32} {u3 : Int32} {u4 : Int32} {u5 : Int32} {u6 : Int64} {u8 : Int32} {o_a : Nat} (k_o : KM Z o 12) (r_o_a : Z.2.1 o 0 = some o_a) (k_o_a : KM Z o_a 13) (h : (vp_in 2 (Z.2.2.1 o_a) ∧ (((I o_a (2 : Int32).toNatClampNeg) ≤ u8 → Lp_X12_odds_296 g 7 o u3 u5 u6 0 0 (Z, I, L) r M') ∧ (¬ (I o_a (2 : Int32).toNatClampNeg) ≤ u8 → (vp_in (50 + u8) (Z.2.2.1 o_a) ∧ (∀ y3 : Int32, y3 = (I o_a (50 + u8).toNatClampNeg) → Lp_X12_odds_131 g 7 o u1 u3 u4 u5 u6 u8 y3 0 (Z, I, L) r M')))))) : Lp_X12_odds_105 g 7 o u1 u3 u4 u5 u6 u8 (Z, I, L) r M' := by
  refine fr_iload (q := 6) rfl dX12_odds_105 rfl ?_
  refine fr_aload_n (i := 0) (q := 0) rfl dX12_odds_107 rfl ?_
  refine fr_getR dX12_odds_108 rfl fl_X12_7 k_o r_o_a ?_
  refine fr_iconst (v := 2) (by decide) dX12_odds_111 rfl ?_
  obtain ⟨hz1, h⟩ := h
  refine fr_iald dX12_odds_112 rfl k_o_a hz1 ?_
  refine fr_icmp_ge (tgt := 290) dX12_odds_113 (by decide) rfl (fun hc => ?_) (fun hc => ?_)
  · have h := h.1 hc
    refine fr_lconst (v := 0) (by decide) dX12_odds_290 rfl ?_
    refine fr_lstore (lv' := [(8, .long 0), (0, rf g o), (1, .int u1), (3, .int u3), (4, .int u4), (5, .int u5), (6, .long u6)]) dX12_odds_291 rfl (by decide) rfl ?_
    refine fr_iconst (v := 0) (by decide) dX12_odds_293 rfl ?_
    refine fr_istore (lv' := [(10, .int 0), (8, .long 0), (0, rf g o), (1, .int u1), (3, .int u3), (4, .int u4), (5, .int u5), (6, .long u6)]) dX12_odds_294 rfl (by decide) rfl ?_
    exact fr_sub [2, 4, 6, 7, 1, 0] rfl h
  · have h := h.2 hc
    refine fr_aload_n (i := 0) (q := 0) rfl dX12_odds_116 rfl ?_
    refine fr_getR dX12_odds_117 rfl fl_X12_7 k_o r_o_a ?_
    refine fr_bipush (v := 50) (by decide) dX12_odds_120 rfl ?_
    refine fr_iload (q := 6) rfl dX12_odds_122 rfl ?_
    refine fr_iadd dX12_odds_124 rfl ?_
    obtain ⟨hz2, h⟩ := h
    refine fr_iald dX12_odds_125 rfl k_o_a hz2 ?_
    refine fr_topi (fun y3 hy3 => ?_)
    have h := h y3 hy3
    refine fr_istore (lv' := [(9, .int y3), (0, rf g o), (1, .int u1), (3, .int u3), (4, .int u4), (5, .int u5), (6, .long u6), (8, .int u8)]) dX12_odds_126 rfl (by decide) rfl ?_
    refine fr_iconst (v := 0) (by decide) dX12_odds_128 rfl ?_
    refine fr_istore (lv' := [(10, .int 0), (9, .int y3), (0, rf g o), (1, .int u1), (3, .int u3), (4, .int u4), (5, .int u5), (6, .long u6), (8, .int u8)]) dX12_odds_129 rfl (by decide) rfl ?_
    exact fr_sub [2, 3, 4, 5, 6, 7, 8, 1, 0] rfl h
theorem wp_X12_odds_296 {g : GE} {Z : Zs} {I : Nat → Nat → Int32} {L : Nat → Nat → Int64} {r : Option Value} {M' : Mem} {o : Nat} {u3 : Int32} {u5 : Int32} {u6 : Int64} {u8 : Int64} {u10 : Int32} {o_ways : Nat} (k_o : KM Z o 12) (r_o_ways : Z.2.1 o 36 = some o_ways) (k_o_ways : KM Z o_ways 14) (h : ((4 ≤ u10 → ((¬ u5 = 0 → (∃ (v1 : Int64), Cl g 1 mu_X12_common [.long u8, .long u6] (Z, I, L) (some (.long v1)) (Z, I, L) ∧ (¬ v1 = 0 ∧ (r = some (.long (u6 / v1)) ∧ M' = (Z, I, L))))) ∧ (u5 = 0 → (∃ (v4 : Int64), Cl g 1 mu_X12_common [.long u8, .long u6] (Z, I, L) (some (.long v4)) (Z, I, L) ∧ (¬ v4 = 0 ∧ (r = some (.long (u8 / v4)) ∧ M' = (Z, I, L))))))) ∧ (¬ 4 ≤ u10 → (vp_in ((4 * u3) + u10) (Z.2.2.1 o_ways) ∧ (∀ y8 : Int64, y8 = (u8 + (L o_ways ((4 * u3) + u10).toNatClampNeg)) → (∀ y9 : Int32, y9 = (u10 + 1) → Lp_X12_odds_296 g 7 o u3 u5 u6 y8 y9 (Z, I, L) r M')))))) : Lp_X12_odds_296 g 7 o u3 u5 u6 u8 u10 (Z, I, L) r M' := by
  refine fr_iload (q := 5) rfl dX12_odds_296 rfl ?_
  refine fr_iconst (v := 4) (by decide) dX12_odds_298 rfl ?_
  refine fr_icmp_ge (tgt := 324) dX12_odds_299 (by decide) rfl (fun hc => ?_) (fun hc => ?_)
  · have h := h.1 hc
    refine fr_iload (q := 2) rfl dX12_odds_324 rfl ?_
    refine fr_if_ne (tgt := 334) dX12_odds_326 (by decide) rfl (fun hc => ?_) (fun hc => ?_)
    · have h := h.1 hc
      refine fr_lload (q := 3) rfl dX12_odds_334 rfl ?_
      refine fr_lload (q := 4) rfl dX12_odds_336 rfl ?_
      refine fr_lload (q := 3) rfl dX12_odds_338 rfl ?_
      obtain ⟨v1, hc2, h⟩ := h
      refine fr_callS2 (ν := mu_X12_common) (st2 := [.long v1, .long u6]) (As := [.long u8, .long u6]) (st := [.long u6]) (v := (some (.long v1))) (M1 := (Z, I, L)) dX12_odds_340 rfl ml_X12_346 mo_X12_common ms_X12_common (Nat.le_of_ble_eq_true rfl) rfl rfl (Nat.le_of_ble_eq_true rfl) hc2 rfl ?_
      obtain ⟨hz3, h⟩ := h
      refine fr_ldiv hz3 dX12_odds_343 rfl ?_
      exact fr_lret rfl dX12_odds_344 h.1 h.2
    · have h := h.2 hc
      refine fr_lload (q := 4) rfl dX12_odds_329 rfl ?_
      refine fr_goto (n := 336) dX12_odds_331 (by decide) ?_
      refine fr_lload (q := 4) rfl dX12_odds_336 rfl ?_
      refine fr_lload (q := 3) rfl dX12_odds_338 rfl ?_
      obtain ⟨v4, hc5, h⟩ := h
      refine fr_callS2 (ν := mu_X12_common) (st2 := [.long v4, .long u8]) (As := [.long u8, .long u6]) (st := [.long u8]) (v := (some (.long v4))) (M1 := (Z, I, L)) dX12_odds_340 rfl ml_X12_346 mo_X12_common ms_X12_common (Nat.le_of_ble_eq_true rfl) rfl rfl (Nat.le_of_ble_eq_true rfl) hc5 rfl ?_
      obtain ⟨hz6, h⟩ := h
      refine fr_ldiv hz6 dX12_odds_343 rfl ?_
      exact fr_lret rfl dX12_odds_344 h.1 h.2
  · have h := h.2 hc
    refine fr_lload (q := 4) rfl dX12_odds_302 rfl ?_
    refine fr_aload_n (i := 0) (q := 0) rfl dX12_odds_304 rfl ?_
    refine fr_getR dX12_odds_305 rfl fl_X12_64 k_o r_o_ways ?_
    refine fr_iconst (v := 4) (by decide) dX12_odds_308 rfl ?_
    refine fr_iload_n (i := 3) (q := 1) rfl dX12_odds_309 rfl ?_
    refine fr_imul dX12_odds_310 rfl ?_
    refine fr_iload (q := 5) rfl dX12_odds_311 rfl ?_
    refine fr_iadd dX12_odds_313 rfl ?_
    obtain ⟨hz7, h⟩ := h
    refine fr_lald dX12_odds_314 rfl k_o_ways hz7 ?_
    refine fr_ladd dX12_odds_315 rfl ?_
    refine fr_topl (fun y8 hy8 => ?_)
    have h := h y8 hy8
    refine fr_lstore (lv' := [(8, .long y8), (0, rf g o), (3, .int u3), (5, .int u5), (6, .long u6), (10, .int u10)]) dX12_odds_316 rfl (by decide) rfl ?_
    obtain ⟨y9, hy9⟩ : ∃ y : Int32, y = u10 + 1 := ⟨_, rfl⟩
    have h := h y9 hy9
    refine fr_iinc (q := 5) (v := y9) (lv' := [(10, .int y9), (8, .long y8), (0, rf g o), (3, .int u3), (5, .int u5), (6, .long u6)]) rfl (by rw [hy9]; rfl) dX12_odds_318 rfl (by decide) rfl ?_
    refine fr_goto (n := 296) dX12_odds_321 (by decide) ?_
    exact fr_sub [2, 3, 4, 5, 1, 0] rfl h
abbrev Lp_X12_odds_155 (g : GE) (d : Nat) (o : Nat) (u1 : Int32) (u3 : Int32) (u4 : Int32) (u5 : Int32) (u6 : Int64) (u8 : Int32) (u9 : Int32) (u10 : Int32) (M : Mem) (r : Option Value) (M' : Mem) : Prop := Fr g d mu_X12_odds 155 [(0, rf g o), (1, .int u1), (3, .int u3), (4, .int u4), (5, .int u5), (6, .long u6), (8, .int u8), (9, .int u9), (10, .int u10)] [] M r M'
theorem wp_X12_odds_131 {g : GE} {Z : Zs} {I : Nat → Nat → Int32} {L : Nat → Nat → Int64} {r : Option Value} {M' : Mem} {o : Nat} {u1 : Int32} {u3 : Int32} {u4 : Int32} {u5 : Int32} {u6 : Int64} {u8 : Int32} {u9 : Int32} {u10 : Int32} {o_more : Nat} (k_o : KM Z o 12) (r_o_more : Z.2.1 o 37 = some o_more) (k_o_more : KM Z o_more 14) (h : ((100 ≤ u10 → Lp_X12_odds_155 g 7 o u1 u3 u4 u5 u6 u8 u9 0 (Z, I, L) r M') ∧ (¬ 100 ≤ u10 → (vp_in u10 (Z.2.2.1 o_more) ∧ (∀ L2 : Nat → Nat → Int64, L2 = rw1 L o_more (vp_updL (L o_more) u10.toNatClampNeg 0) → (∀ y3 : Int32, y3 = (u10 + 1) → Lp_X12_odds_131 g 7 o u1 u3 u4 u5 u6 u8 u9 y3 (Z, I, L2) r M')))))) : Lp_X12_odds_131 g 7 o u1 u3 u4 u5 u6 u8 u9 u10 (Z, I, L) r M' := by
  refine fr_iload (q := 8) rfl dX12_odds_131 rfl ?_
  refine fr_bipush (v := 100) (by decide) dX12_odds_133 rfl ?_
  refine fr_icmp_ge (tgt := 152) dX12_odds_135 (by decide) rfl (fun hc => ?_) (fun hc => ?_)
  · have h := h.1 hc
    refine fr_iconst (v := 0) (by decide) dX12_odds_152 rfl ?_
    refine fr_istore (lv' := [(10, .int 0), (0, rf g o), (1, .int u1), (3, .int u3), (4, .int u4), (5, .int u5), (6, .long u6), (8, .int u8), (9, .int u9)]) dX12_odds_153 rfl (by decide) rfl ?_
    exact fr_sub [1, 2, 3, 4, 5, 6, 7, 8, 0] rfl h
  · have h := h.2 hc
    refine fr_aload_n (i := 0) (q := 0) rfl dX12_odds_138 rfl ?_
    refine fr_getR dX12_odds_139 rfl fl_X12_67 k_o r_o_more ?_
    refine fr_iload (q := 8) rfl dX12_odds_142 rfl ?_
    refine fr_lconst (v := 0) (by decide) dX12_odds_144 rfl ?_
    obtain ⟨hz1, h⟩ := h
    refine fr_last dX12_odds_145 rfl k_o_more hz1 ?_
    refine fr_memL (fun L2 hL2 => ?_)
    have h := h L2 hL2
    obtain ⟨y3, hy3⟩ : ∃ y : Int32, y = u10 + 1 := ⟨_, rfl⟩
    have h := h y3 hy3
    refine fr_iinc (q := 8) (v := y3) (lv' := [(10, .int y3), (0, rf g o), (1, .int u1), (3, .int u3), (4, .int u4), (5, .int u5), (6, .long u6), (8, .int u8), (9, .int u9)]) rfl (by rw [hy3]; rfl) dX12_odds_146 rfl (by decide) rfl ?_
    refine fr_goto (n := 131) dX12_odds_149 (by decide) ?_
    exact fr_sub [1, 2, 3, 4, 5, 6, 7, 8, 0] rfl h
abbrev Lp_X12_odds_249 (g : GE) (d : Nat) (o : Nat) (u1 : Int32) (u3 : Int32) (u4 : Int32) (u5 : Int32) (u6 : Int64) (u8 : Int32) (u10 : Int32) (M : Mem) (r : Option Value) (M' : Mem) : Prop := Fr g d mu_X12_odds 249 [(0, rf g o), (1, .int u1), (3, .int u3), (4, .int u4), (5, .int u5), (6, .long u6), (8, .int u8), (10, .int u10)] [] M r M'
theorem wp_X12_odds_155 {g : GE} {Z : Zs} {I : Nat → Nat → Int32} {L : Nat → Nat → Int64} {r : Option Value} {M' : Mem} {o : Nat} {u1 : Int32} {u3 : Int32} {u4 : Int32} {u5 : Int32} {u6 : Int64} {u8 : Int32} {u9 : Int32} {u10 : Int32} {o_ways : Nat} {o_more : Nat} (k_o : KM Z o 12) (r_o_ways : Z.2.1 o 36 = some o_ways) (k_o_ways : KM Z o_ways 14) (r_o_more : Z.2.1 o 37 = some o_more) (k_o_more : KM Z o_more 14) (h : ((100 ≤ u10 → Lp_X12_odds_249 g 7 o u1 u3 u4 u5 u6 u8 0 (Z, I, L) r M') ∧ (¬ 100 ≤ u10 → (vp_in u10 (Z.2.2.1 o_ways) ∧ ((¬ (lg_cmp (L o_ways u10.toNatClampNeg) 0) = 0 → (∃ (v2 : Int32), Cl g 2 mu_X12_then [rf g o, .int u1, .int u10, .int u9] (Z, I, L) (some (.int v2)) (Z, I, L) ∧ (vp_in v2 (Z.2.2.1 o_more) ∧ (vp_in u10 (Z.2.2.1 o_ways) ∧ (vp_in v2 (Z.2.2.1 o_more) ∧ (∀ L7 : Nat → Nat → Int64, L7 = rw1 L o_more (vp_updL (L o_more) v2.toNatClampNeg ((L o_more v2.toNatClampNeg) + ((L o_ways u10.toNatClampNeg) * ((10 - u4).toInt64)))) → (∃ (v8 : Int32), Cl g 2 mu_X12_then [rf g o, .int u1, .int u10, .int ((u9 + 1) - (u9 + 1) / 4 * 4)] (Z, I, L7) (some (.int v8)) (Z, I, L7) ∧ (vp_in v8 (Z.2.2.1 o_more) ∧ (vp_in u10 (Z.2.2.1 o_ways) ∧ (vp_in v8 (Z.2.2.1 o_more) ∧ (∀ L13 : Nat → Nat → Int64, L13 = rw1 L7 o_more (vp_updL (L7 o_more) v8.toNatClampNeg ((L7 o_more v8.toNatClampNeg) + ((L7 o_ways u10.toNatClampNeg) * u4.toInt64))) → (∀ y14 : Int32, y14 = (u10 + 1) → Lp_X12_odds_155 g 7 o u1 u3 u4 u5 u6 u8 u9 y14 (Z, I, L13) r M')))))))))))) ∧ ((lg_cmp (L o_ways u10.toNatClampNeg) 0) = 0 → (∀ y15 : Int32, y15 = (u10 + 1) → Lp_X12_odds_155 g 7 o u1 u3 u4 u5 u6 u8 u9 y15 (Z, I, L) r M'))))))) : Lp_X12_odds_155 g 7 o u1 u3 u4 u5 u6 u8 u9 u10 (Z, I, L) r M' := by
  refine fr_iload (q := 8) rfl dX12_odds_155 rfl ?_
  refine fr_bipush (v := 100) (by decide) dX12_odds_157 rfl ?_
  refine fr_icmp_ge (tgt := 246) dX12_odds_159 (by decide) rfl (fun hc => ?_) (fun hc => ?_)
  · have h := h.1 hc
    refine fr_iconst (v := 0) (by decide) dX12_odds_246 rfl ?_
    refine fr_istore (lv' := [(10, .int 0), (0, rf g o), (1, .int u1), (3, .int u3), (4, .int u4), (5, .int u5), (6, .long u6), (8, .int u8), (9, .int u9)]) dX12_odds_247 rfl (by decide) rfl ?_
    exact fr_sub [1, 2, 3, 4, 5, 6, 7, 0] rfl h
  · have h := h.2 hc
    refine fr_aload_n (i := 0) (q := 0) rfl dX12_odds_162 rfl ?_
    refine fr_getR dX12_odds_163 rfl fl_X12_64 k_o r_o_ways ?_
    refine fr_iload (q := 8) rfl dX12_odds_166 rfl ?_
    obtain ⟨hz1, h⟩ := h
    refine fr_lald dX12_odds_168 rfl k_o_ways hz1 ?_
    refine fr_lconst (v := 0) (by decide) dX12_odds_169 rfl ?_
    refine fr_lcmp dX12_odds_170 rfl ?_
    refine fr_if_ne (tgt := 177) dX12_odds_171 (by decide) rfl (fun hc => ?_) (fun hc => ?_)
    · have h := h.1 hc
      refine fr_aload_n (i := 0) (q := 0) rfl dX12_odds_177 rfl ?_
      refine fr_getR dX12_odds_178 rfl fl_X12_67 k_o r_o_more ?_
      refine fr_aload_n (i := 0) (q := 0) rfl dX12_odds_181 rfl ?_
      refine fr_iload_n (i := 1) (q := 1) rfl dX12_odds_182 rfl ?_
      refine fr_iload (q := 8) rfl dX12_odds_183 rfl ?_
      refine fr_iload (q := 7) rfl dX12_odds_185 rfl ?_
      obtain ⟨v2, hc3, h⟩ := h
      refine fr_callV2 (ν := mu_X12_then) (st2 := [.int v2, rf g o_more]) (As := [.int u1, .int u10, .int u9]) (st := [rf g o_more]) (v := (some (.int v2))) (M1 := (Z, I, L)) dX12_odds_187 rfl ml_X12_319 mo_X12_then mi_X12_then (ci := 12) rfl rfl k_o (Nat.le_of_ble_eq_true rfl) rfl rfl (Nat.le_of_ble_eq_true rfl) hc3 rfl ?_
      refine fr_dup2 rfl rfl dX12_odds_190 rfl ?_
      obtain ⟨hz4, h⟩ := h
      refine fr_lald dX12_odds_191 rfl k_o_more hz4 ?_
      refine fr_aload_n (i := 0) (q := 0) rfl dX12_odds_192 rfl ?_
      refine fr_getR dX12_odds_193 rfl fl_X12_64 k_o r_o_ways ?_
      refine fr_iload (q := 8) rfl dX12_odds_196 rfl ?_
      obtain ⟨hz5, h⟩ := h
      refine fr_lald dX12_odds_198 rfl k_o_ways hz5 ?_
      refine fr_bipush (v := 10) (by decide) dX12_odds_199 rfl ?_
      refine fr_iload (q := 3) rfl dX12_odds_201 rfl ?_
      refine fr_isub dX12_odds_203 rfl ?_
      refine fr_i2l dX12_odds_204 rfl ?_
      refine fr_lmul dX12_odds_205 rfl ?_
      refine fr_ladd dX12_odds_206 rfl ?_
      obtain ⟨hz6, h⟩ := h
      refine fr_last dX12_odds_207 rfl k_o_more hz6 ?_
      refine fr_memL (fun L7 hL7 => ?_)
      have h := h L7 hL7
      refine fr_aload_n (i := 0) (q := 0) rfl dX12_odds_208 rfl ?_
      refine fr_getR dX12_odds_209 rfl fl_X12_67 k_o r_o_more ?_
      refine fr_aload_n (i := 0) (q := 0) rfl dX12_odds_212 rfl ?_
      refine fr_iload_n (i := 1) (q := 1) rfl dX12_odds_213 rfl ?_
      refine fr_iload (q := 8) rfl dX12_odds_214 rfl ?_
      refine fr_iload (q := 7) rfl dX12_odds_216 rfl ?_
      refine fr_iconst (v := 1) (by decide) dX12_odds_218 rfl ?_
      refine fr_iadd dX12_odds_219 rfl ?_
      refine fr_iconst (v := 4) (by decide) dX12_odds_220 rfl ?_
      refine fr_irem (by decide) dX12_odds_221 rfl ?_
      obtain ⟨v8, hc9, h⟩ := h
      refine fr_callV2 (ν := mu_X12_then) (st2 := [.int v8, rf g o_more]) (As := [.int u1, .int u10, .int ((u9 + 1) - (u9 + 1) / 4 * 4)]) (st := [rf g o_more]) (v := (some (.int v8))) (M1 := (Z, I, L7)) dX12_odds_222 rfl ml_X12_319 mo_X12_then mi_X12_then (ci := 12) rfl rfl k_o (Nat.le_of_ble_eq_true rfl) rfl rfl (Nat.le_of_ble_eq_true rfl) hc9 rfl ?_
      refine fr_dup2 rfl rfl dX12_odds_225 rfl ?_
      obtain ⟨hz10, h⟩ := h
      refine fr_lald dX12_odds_226 rfl k_o_more hz10 ?_
      refine fr_aload_n (i := 0) (q := 0) rfl dX12_odds_227 rfl ?_
      refine fr_getR dX12_odds_228 rfl fl_X12_64 k_o r_o_ways ?_
      refine fr_iload (q := 8) rfl dX12_odds_231 rfl ?_
      obtain ⟨hz11, h⟩ := h
      refine fr_lald dX12_odds_233 rfl k_o_ways hz11 ?_
      refine fr_iload (q := 3) rfl dX12_odds_234 rfl ?_
      refine fr_i2l dX12_odds_236 rfl ?_
      refine fr_lmul dX12_odds_237 rfl ?_
      refine fr_ladd dX12_odds_238 rfl ?_
      obtain ⟨hz12, h⟩ := h
      refine fr_last dX12_odds_239 rfl k_o_more hz12 ?_
      refine fr_memL (fun L13 hL13 => ?_)
      have h := h L13 hL13
      obtain ⟨y14, hy14⟩ : ∃ y : Int32, y = u10 + 1 := ⟨_, rfl⟩
      have h := h y14 hy14
      refine fr_iinc (q := 8) (v := y14) (lv' := [(10, .int y14), (0, rf g o), (1, .int u1), (3, .int u3), (4, .int u4), (5, .int u5), (6, .long u6), (8, .int u8), (9, .int u9)]) rfl (by rw [hy14]; rfl) dX12_odds_240 rfl (by decide) rfl ?_
      refine fr_goto (n := 155) dX12_odds_243 (by decide) ?_
      exact fr_sub [1, 2, 3, 4, 5, 6, 7, 8, 0] rfl h
    · have h := h.2 hc
      refine fr_goto (n := 240) dX12_odds_174 (by decide) ?_
      obtain ⟨y15, hy15⟩ : ∃ y : Int32, y = u10 + 1 := ⟨_, rfl⟩
      have h := h y15 hy15
      refine fr_iinc (q := 8) (v := y15) (lv' := [(10, .int y15), (0, rf g o), (1, .int u1), (3, .int u3), (4, .int u4), (5, .int u5), (6, .long u6), (8, .int u8), (9, .int u9)]) rfl (by rw [hy15]; rfl) dX12_odds_240 rfl (by decide) rfl ?_
      refine fr_goto (n := 155) dX12_odds_243 (by decide) ?_
      exact fr_sub [1, 2, 3, 4, 5, 6, 7, 8, 0] rfl h
theorem wp_X12_odds_249 {g : GE} {Z : Zs} {I : Nat → Nat → Int32} {L : Nat → Nat → Int64} {r : Option Value} {M' : Mem} {o : Nat} {u1 : Int32} {u3 : Int32} {u4 : Int32} {u5 : Int32} {u6 : Int64} {u8 : Int32} {u10 : Int32} {o_ways : Nat} {o_more : Nat} (k_o : KM Z o 12) (r_o_ways : Z.2.1 o 36 = some o_ways) (k_o_ways : KM Z o_ways 14) (r_o_more : Z.2.1 o 37 = some o_more) (k_o_more : KM Z o_more 14) (h : ((100 ≤ u10 → (∀ y1 : Int64, y1 = (u6 * 10) → (∀ y2 : Int32, y2 = (u8 + 1) → Lp_X12_odds_105 g 7 o u1 u3 u4 u5 y1 y2 (Z, I, L) r M'))) ∧ (¬ 100 ≤ u10 → (vp_in u10 (Z.2.2.1 o_more) ∧ (vp_in u10 (Z.2.2.1 o_ways) ∧ (∀ L5 : Nat → Nat → Int64, L5 = rw1 L o_ways (vp_updL (L o_ways) u10.toNatClampNeg (L o_more u10.toNatClampNeg)) → (∀ y6 : Int32, y6 = (u10 + 1) → Lp_X12_odds_249 g 7 o u1 u3 u4 u5 u6 u8 y6 (Z, I, L5) r M'))))))) : Lp_X12_odds_249 g 7 o u1 u3 u4 u5 u6 u8 u10 (Z, I, L) r M' := by
  refine fr_iload (q := 7) rfl dX12_odds_249 rfl ?_
  refine fr_bipush (v := 100) (by decide) dX12_odds_251 rfl ?_
  refine fr_icmp_ge (tgt := 276) dX12_odds_253 (by decide) rfl (fun hc => ?_) (fun hc => ?_)
  · have h := h.1 hc
    refine fr_lload (q := 5) rfl dX12_odds_276 rfl ?_
    refine fr_ldc2 (v := 10) kc_X12_344 dX12_odds_278 rfl ?_
    refine fr_lmul dX12_odds_281 rfl ?_
    refine fr_topl (fun y1 hy1 => ?_)
    have h := h y1 hy1
    refine fr_lstore (lv' := [(6, .long y1), (0, rf g o), (1, .int u1), (3, .int u3), (4, .int u4), (5, .int u5), (8, .int u8), (10, .int u10)]) dX12_odds_282 rfl (by decide) rfl ?_
    obtain ⟨y2, hy2⟩ : ∃ y : Int32, y = u8 + 1 := ⟨_, rfl⟩
    have h := h y2 hy2
    refine fr_iinc (q := 6) (v := y2) (lv' := [(8, .int y2), (6, .long y1), (0, rf g o), (1, .int u1), (3, .int u3), (4, .int u4), (5, .int u5), (10, .int u10)]) rfl (by rw [hy2]; rfl) dX12_odds_284 rfl (by decide) rfl ?_
    refine fr_goto (n := 105) dX12_odds_287 (by decide) ?_
    exact fr_sub [2, 3, 4, 5, 6, 1, 0] rfl h
  · have h := h.2 hc
    refine fr_aload_n (i := 0) (q := 0) rfl dX12_odds_256 rfl ?_
    refine fr_getR dX12_odds_257 rfl fl_X12_64 k_o r_o_ways ?_
    refine fr_iload (q := 7) rfl dX12_odds_260 rfl ?_
    refine fr_aload_n (i := 0) (q := 0) rfl dX12_odds_262 rfl ?_
    refine fr_getR dX12_odds_263 rfl fl_X12_67 k_o r_o_more ?_
    refine fr_iload (q := 7) rfl dX12_odds_266 rfl ?_
    obtain ⟨hz3, h⟩ := h
    refine fr_lald dX12_odds_268 rfl k_o_more hz3 ?_
    obtain ⟨hz4, h⟩ := h
    refine fr_last dX12_odds_269 rfl k_o_ways hz4 ?_
    refine fr_memL (fun L5 hL5 => ?_)
    have h := h L5 hL5
    obtain ⟨y6, hy6⟩ : ∃ y : Int32, y = u10 + 1 := ⟨_, rfl⟩
    have h := h y6 hy6
    refine fr_iinc (q := 7) (v := y6) (lv' := [(10, .int y6), (0, rf g o), (1, .int u1), (3, .int u3), (4, .int u4), (5, .int u5), (6, .long u6), (8, .int u8)]) rfl (by rw [hy6]; rfl) dX12_odds_270 rfl (by decide) rfl ?_
    refine fr_goto (n := 249) dX12_odds_273 (by decide) ?_
    exact fr_sub [1, 2, 3, 4, 5, 6, 7, 0] rfl h
theorem cp_X12_seen {g : GE} {Z : Zs} {I : Nat → Nat → Int32} {L : Nat → Nat → Int64} {r : Option Value} {M' : Mem} {o : Nat} {x1 : Int32} {x2 : Int32} {x3 : Int32} {o_a : Nat} (k_o : KM Z o 12) (r_o_a : Z.2.1 o 0 = some o_a) (k_o_a : KM Z o_a 13) (h : (∃ (v1 : Int32), Cl g 2 mu_X12_isPose [rf g o, .int x1] (Z, I, L) (some (.int v1)) (Z, I, L) ∧ ((v1 = 0 → (r = some (.int ((-1))) ∧ M' = (Z, I, L))) ∧ (¬ v1 = 0 → (∃ (v3 : Int32), Cl g 1 mu_X12_isIn [.int x2, .int 0, .int 3] (Z, I, L) (some (.int v3)) (Z, I, L) ∧ ((v3 = 0 → (r = some (.int ((-1))) ∧ M' = (Z, I, L))) ∧ (¬ v3 = 0 → (∃ (v5 : Int32), Cl g 2 mu_X12_isPose [rf g o, .int x3] (Z, I, L) (some (.int v5)) (Z, I, L) ∧ ((v5 = 0 → (r = some (.int ((-1))) ∧ M' = (Z, I, L))) ∧ (¬ v5 = 0 → (vp_in 4 (Z.2.2.1 o_a) ∧ ((¬ (I o_a (4 : Int32).toNatClampNeg) = 20 → (vp_in 4 (Z.2.2.1 o_a) ∧ (∀ y9 : Int32, y9 = (130 + (3 * (I o_a (4 : Int32).toNatClampNeg))) → (vp_in y9 (Z.2.2.1 o_a) ∧ (∀ I11 : Nat → Nat → Int32, I11 = rw1 I o_a (upd (I o_a) y9.toNatClampNeg x1) → (vp_in (y9 + 1) (Z.2.2.1 o_a) ∧ (∀ I13 : Nat → Nat → Int32, I13 = rw1 I11 o_a (upd (I11 o_a) (y9 + 1).toNatClampNeg x2) → (vp_in (y9 + 2) (Z.2.2.1 o_a) ∧ (∀ I15 : Nat → Nat → Int32, I15 = rw1 I13 o_a (upd (I13 o_a) (y9 + 2).toNatClampNeg x3) → (vp_in 4 (Z.2.2.1 o_a) ∧ (vp_in 4 (Z.2.2.1 o_a) ∧ (∀ I18 : Nat → Nat → Int32, I18 = rw1 I15 o_a (upd (I15 o_a) (4 : Int32).toNatClampNeg ((I15 o_a (4 : Int32).toNatClampNeg) + 1)) → (vp_in 4 (Z.2.2.1 o_a) ∧ (r = some (.int (I18 o_a (4 : Int32).toNatClampNeg)) ∧ M' = (Z, I18, L))))))))))))))) ∧ ((I o_a (4 : Int32).toNatClampNeg) = 20 → (r = some (.int ((-1))) ∧ M' = (Z, I, L))))))))))))))) : Cl g 3 mu_X12_seen [rf g o, .int x1, .int x2, .int x3] (Z, I, L) r M' := by
  refine cl_of (lv := [(0, rf g o), (1, .int x1), (2, .int x2), (3, .int x3)]) (by decide) (Nat.le_of_ble_eq_true rfl) rfl ?_
  refine fr_aload_n (i := 0) (q := 0) rfl dX12_seen_0 rfl ?_
  refine fr_iload_n (i := 1) (q := 1) rfl dX12_seen_1 rfl ?_
  obtain ⟨v1, hc2, h⟩ := h
  refine fr_callV2 (ν := mu_X12_isPose) (st2 := [.int v1]) (As := [.int x1]) (st := []) (v := (some (.int v1))) (M1 := (Z, I, L)) dX12_seen_2 rfl ml_X12_110 mo_X12_isPose mi_X12_isPose (ci := 12) rfl rfl k_o (Nat.le_of_ble_eq_true rfl) rfl rfl (Nat.le_of_ble_eq_true rfl) hc2 rfl ?_
  refine fr_if_eq (tgt := 36) dX12_seen_5 (by decide) rfl (fun hc => ?_) (fun hc => ?_)
  · have h := h.1 hc
    refine fr_iconst (v := (-1)) (by decide) dX12_seen_36 rfl ?_
    exact fr_iret rfl dX12_seen_37 h.1 h.2
  · have h := h.2 hc
    refine fr_iload_n (i := 2) (q := 2) rfl dX12_seen_8 rfl ?_
    refine fr_iconst (v := 0) (by decide) dX12_seen_9 rfl ?_
    refine fr_iconst (v := 3) (by decide) dX12_seen_10 rfl ?_
    obtain ⟨v3, hc4, h⟩ := h
    refine fr_callS2 (ν := mu_X12_isIn) (st2 := [.int v3]) (As := [.int x2, .int 0, .int 3]) (st := []) (v := (some (.int v3))) (M1 := (Z, I, L)) dX12_seen_11 rfl ml_X12_95 mo_X12_isIn ms_X12_isIn (Nat.le_of_ble_eq_true rfl) rfl rfl (Nat.le_of_ble_eq_true rfl) hc4 rfl ?_
    refine fr_if_eq (tgt := 36) dX12_seen_14 (by decide) rfl (fun hc => ?_) (fun hc => ?_)
    · have h := h.1 hc
      refine fr_iconst (v := (-1)) (by decide) dX12_seen_36 rfl ?_
      exact fr_iret rfl dX12_seen_37 h.1 h.2
    · have h := h.2 hc
      refine fr_aload_n (i := 0) (q := 0) rfl dX12_seen_17 rfl ?_
      refine fr_iload_n (i := 3) (q := 3) rfl dX12_seen_18 rfl ?_
      obtain ⟨v5, hc6, h⟩ := h
      refine fr_callV2 (ν := mu_X12_isPose) (st2 := [.int v5]) (As := [.int x3]) (st := []) (v := (some (.int v5))) (M1 := (Z, I, L)) dX12_seen_19 rfl ml_X12_110 mo_X12_isPose mi_X12_isPose (ci := 12) rfl rfl k_o (Nat.le_of_ble_eq_true rfl) rfl rfl (Nat.le_of_ble_eq_true rfl) hc6 rfl ?_
      refine fr_if_eq (tgt := 36) dX12_seen_22 (by decide) rfl (fun hc => ?_) (fun hc => ?_)
      · have h := h.1 hc
        refine fr_iconst (v := (-1)) (by decide) dX12_seen_36 rfl ?_
        exact fr_iret rfl dX12_seen_37 h.1 h.2
      · have h := h.2 hc
        refine fr_aload_n (i := 0) (q := 0) rfl dX12_seen_25 rfl ?_
        refine fr_getR dX12_seen_26 rfl fl_X12_7 k_o r_o_a ?_
        refine fr_iconst (v := 4) (by decide) dX12_seen_29 rfl ?_
        obtain ⟨hz7, h⟩ := h
        refine fr_iald dX12_seen_30 rfl k_o_a hz7 ?_
        refine fr_bipush (v := 20) (by decide) dX12_seen_31 rfl ?_
        refine fr_icmp_ne (tgt := 38) dX12_seen_33 (by decide) rfl (fun hc => ?_) (fun hc => ?_)
        · have h := h.1 hc
          refine fr_sipush (v := 130) (by decide) dX12_seen_38 rfl ?_
          refine fr_iconst (v := 3) (by decide) dX12_seen_41 rfl ?_
          refine fr_aload_n (i := 0) (q := 0) rfl dX12_seen_42 rfl ?_
          refine fr_getR dX12_seen_43 rfl fl_X12_7 k_o r_o_a ?_
          refine fr_iconst (v := 4) (by decide) dX12_seen_46 rfl ?_
          obtain ⟨hz8, h⟩ := h
          refine fr_iald dX12_seen_47 rfl k_o_a hz8 ?_
          refine fr_imul dX12_seen_48 rfl ?_
          refine fr_iadd dX12_seen_49 rfl ?_
          refine fr_topi (fun y9 hy9 => ?_)
          have h := h y9 hy9
          refine fr_istore (lv' := [(4, .int y9), (0, rf g o), (1, .int x1), (2, .int x2), (3, .int x3)]) dX12_seen_50 rfl (by decide) rfl ?_
          refine fr_aload_n (i := 0) (q := 1) rfl dX12_seen_52 rfl ?_
          refine fr_getR dX12_seen_53 rfl fl_X12_7 k_o r_o_a ?_
          refine fr_iload (q := 0) rfl dX12_seen_56 rfl ?_
          refine fr_iload_n (i := 1) (q := 2) rfl dX12_seen_58 rfl ?_
          obtain ⟨hz10, h⟩ := h
          refine fr_iast dX12_seen_59 rfl k_o_a hz10 ?_
          refine fr_memI (fun I11 hI11 => ?_)
          have h := h I11 hI11
          refine fr_aload_n (i := 0) (q := 1) rfl dX12_seen_60 rfl ?_
          refine fr_getR dX12_seen_61 rfl fl_X12_7 k_o r_o_a ?_
          refine fr_iload (q := 0) rfl dX12_seen_64 rfl ?_
          refine fr_iconst (v := 1) (by decide) dX12_seen_66 rfl ?_
          refine fr_iadd dX12_seen_67 rfl ?_
          refine fr_iload_n (i := 2) (q := 3) rfl dX12_seen_68 rfl ?_
          obtain ⟨hz12, h⟩ := h
          refine fr_iast dX12_seen_69 rfl k_o_a hz12 ?_
          refine fr_memI (fun I13 hI13 => ?_)
          have h := h I13 hI13
          refine fr_aload_n (i := 0) (q := 1) rfl dX12_seen_70 rfl ?_
          refine fr_getR dX12_seen_71 rfl fl_X12_7 k_o r_o_a ?_
          refine fr_iload (q := 0) rfl dX12_seen_74 rfl ?_
          refine fr_iconst (v := 2) (by decide) dX12_seen_76 rfl ?_
          refine fr_iadd dX12_seen_77 rfl ?_
          refine fr_iload_n (i := 3) (q := 4) rfl dX12_seen_78 rfl ?_
          obtain ⟨hz14, h⟩ := h
          refine fr_iast dX12_seen_79 rfl k_o_a hz14 ?_
          refine fr_memI (fun I15 hI15 => ?_)
          have h := h I15 hI15
          refine fr_aload_n (i := 0) (q := 1) rfl dX12_seen_80 rfl ?_
          refine fr_getR dX12_seen_81 rfl fl_X12_7 k_o r_o_a ?_
          refine fr_iconst (v := 4) (by decide) dX12_seen_84 rfl ?_
          refine fr_dup2 rfl rfl dX12_seen_85 rfl ?_
          obtain ⟨hz16, h⟩ := h
          refine fr_iald dX12_seen_86 rfl k_o_a hz16 ?_
          refine fr_iconst (v := 1) (by decide) dX12_seen_87 rfl ?_
          refine fr_iadd dX12_seen_88 rfl ?_
          obtain ⟨hz17, h⟩ := h
          refine fr_iast dX12_seen_89 rfl k_o_a hz17 ?_
          refine fr_memI (fun I18 hI18 => ?_)
          have h := h I18 hI18
          refine fr_aload_n (i := 0) (q := 1) rfl dX12_seen_90 rfl ?_
          refine fr_getR dX12_seen_91 rfl fl_X12_7 k_o r_o_a ?_
          refine fr_iconst (v := 4) (by decide) dX12_seen_94 rfl ?_
          obtain ⟨hz19, h⟩ := h
          refine fr_iald dX12_seen_95 rfl k_o_a hz19 ?_
          exact fr_iret rfl dX12_seen_96 h.1 h.2
        · have h := h.2 hc
          refine fr_iconst (v := (-1)) (by decide) dX12_seen_36 rfl ?_
          exact fr_iret rfl dX12_seen_37 h.1 h.2
abbrev Lp_X12_holds_4 (g : GE) (d : Nat) (o : Nat) (u1 : Int32) (u2 : Int32) (M : Mem) (r : Option Value) (M' : Mem) : Prop := Fr g d mu_X12_holds 4 [(0, rf g o), (1, .int u1), (2, .int u2)] [] M r M'
theorem cp_X12_holds {g : GE} {Z : Zs} {I : Nat → Nat → Int32} {L : Nat → Nat → Int64} {r : Option Value} {M' : Mem} {o : Nat} (k_o : KM Z o 12) (h : Lp_X12_holds_4 g 6 o 0 0 (Z, I, L) r M') : Cl g 6 mu_X12_holds [rf g o] (Z, I, L) r M' := by
  refine cl_of (lv := [(0, rf g o)]) (by decide) (Nat.le_of_ble_eq_true rfl) rfl ?_
  refine fr_iconst (v := 0) (by decide) dX12_holds_0 rfl ?_
  refine fr_istore_n (i := 1) (lv' := [(1, .int 0), (0, rf g o)]) dX12_holds_1 rfl (by decide) rfl ?_
  refine fr_iconst (v := 0) (by decide) dX12_holds_2 rfl ?_
  refine fr_istore_n (i := 2) (lv' := [(2, .int 0), (1, .int 0), (0, rf g o)]) dX12_holds_3 rfl (by decide) rfl ?_
  exact fr_sub [2, 1, 0] rfl h
abbrev Lp_X12_holds_19 (g : GE) (d : Nat) (o : Nat) (u1 : Int32) (u2 : Int32) (u3 : Int32) (u4 : Int32) (M : Mem) (r : Option Value) (M' : Mem) : Prop := Fr g d mu_X12_holds 19 [(0, rf g o), (1, .int u1), (2, .int u2), (3, .int u3), (4, .int u4)] [] M r M'
theorem wp_X12_holds_4 {g : GE} {Z : Zs} {I : Nat → Nat → Int32} {L : Nat → Nat → Int64} {r : Option Value} {M' : Mem} {o : Nat} {u1 : Int32} {u2 : Int32} {o_a : Nat} (k_o : KM Z o 12) (r_o_a : Z.2.1 o 0 = some o_a) (k_o_a : KM Z o_a 13) (h : (vp_in 1 (Z.2.2.1 o_a) ∧ (((I o_a (1 : Int32).toNatClampNeg) ≤ u2 → (r = some (.int u1) ∧ M' = (Z, I, L))) ∧ (¬ (I o_a (1 : Int32).toNatClampNeg) ≤ u2 → Lp_X12_holds_19 g 6 o u1 u2 1 0 (Z, I, L) r M')))) : Lp_X12_holds_4 g 6 o u1 u2 (Z, I, L) r M' := by
  refine fr_iload_n (i := 2) (q := 2) rfl dX12_holds_4 rfl ?_
  refine fr_aload_n (i := 0) (q := 0) rfl dX12_holds_5 rfl ?_
  refine fr_getR dX12_holds_6 rfl fl_X12_7 k_o r_o_a ?_
  refine fr_iconst (v := 1) (by decide) dX12_holds_9 rfl ?_
  obtain ⟨hz1, h⟩ := h
  refine fr_iald dX12_holds_10 rfl k_o_a hz1 ?_
  refine fr_icmp_ge (tgt := 127) dX12_holds_11 (by decide) rfl (fun hc => ?_) (fun hc => ?_)
  · have h := h.1 hc
    refine fr_iload_n (i := 1) (q := 1) rfl dX12_holds_127 rfl ?_
    exact fr_iret rfl dX12_holds_128 h.1 h.2
  · have h := h.2 hc
    refine fr_iconst (v := 1) (by decide) dX12_holds_14 rfl ?_
    refine fr_istore_n (i := 3) (lv' := [(3, .int 1), (0, rf g o), (1, .int u1), (2, .int u2)]) dX12_holds_15 rfl (by decide) rfl ?_
    refine fr_iconst (v := 0) (by decide) dX12_holds_16 rfl ?_
    refine fr_istore (lv' := [(4, .int 0), (3, .int 1), (0, rf g o), (1, .int u1), (2, .int u2)]) dX12_holds_17 rfl (by decide) rfl ?_
    exact fr_sub [2, 3, 4, 1, 0] rfl h
theorem wp_X12_holds_19 {g : GE} {Z : Zs} {I : Nat → Nat → Int32} {L : Nat → Nat → Int64} {r : Option Value} {M' : Mem} {o : Nat} {u1 : Int32} {u2 : Int32} {u3 : Int32} {u4 : Int32} {o_a : Nat} (k_o : KM Z o 12) (r_o_a : Z.2.1 o 0 = some o_a) (k_o_a : KM Z o_a 13) (h : (vp_in 4 (Z.2.2.1 o_a) ∧ (((I o_a (4 : Int32).toNatClampNeg) ≤ u4 → ((u3 = 0 → (∀ y2 : Int32, y2 = (u1 ||| 0) → (∀ y3 : Int32, y3 = (u2 + 1) → Lp_X12_holds_4 g 6 o y2 y3 (Z, I, L) r M'))) ∧ (¬ u3 = 0 → (∀ y4 : Int32, y4 = (u1 ||| (1 <<< (u2 &&& 31))) → (∀ y5 : Int32, y5 = (u2 + 1) → Lp_X12_holds_4 g 6 o y4 y5 (Z, I, L) r M'))))) ∧ (¬ (I o_a (4 : Int32).toNatClampNeg) ≤ u4 → (∀ y6 : Int32, y6 = (130 + (3 * u4)) → ((u3 = 0 → (∀ y7 : Int32, y7 = (u4 + 1) → Lp_X12_holds_19 g 6 o u1 u2 0 y7 (Z, I, L) r M')) ∧ (¬ u3 = 0 → (vp_in y6 (Z.2.2.1 o_a) ∧ (∃ (v9 : Int32), Cl g 2 mu_X12_isPose [rf g o, .int (I o_a y6.toNatClampNeg)] (Z, I, L) (some (.int v9)) (Z, I, L) ∧ ((v9 = 0 → (∀ y11 : Int32, y11 = (u4 + 1) → Lp_X12_holds_19 g 6 o u1 u2 0 y11 (Z, I, L) r M')) ∧ (¬ v9 = 0 → (vp_in y6 (Z.2.2.1 o_a) ∧ (vp_in (y6 + 1) (Z.2.2.1 o_a) ∧ (∃ (v14 : Int32) (I15 : Nat → Nat → Int32) (L16 : Nat → Nat → Int64), Cl g 5 mu_X12_made [rf g o, .int u2, .int (I o_a y6.toNatClampNeg), .int (I o_a (y6 + 1).toNatClampNeg)] (Z, I, L) (some (.int v14)) (Z, I15, L16) ∧ (vp_in (y6 + 2) (Z.2.2.1 o_a) ∧ ((¬ (v14 - v14 / 200 * 200) = (I15 o_a (y6 + 2).toNatClampNeg) → (∀ y19 : Int32, y19 = (u4 + 1) → Lp_X12_holds_19 g 6 o u1 u2 0 y19 (Z, I15, L16) r M')) ∧ ((v14 - v14 / 200 * 200) = (I15 o_a (y6 + 2).toNatClampNeg) → (∀ y20 : Int32, y20 = (u4 + 1) → Lp_X12_holds_19 g 6 o u1 u2 1 y20 (Z, I15, L16) r M')))))))))))))))))) : Lp_X12_holds_19 g 6 o u1 u2 u3 u4 (Z, I, L) r M' := by
  refine fr_iload (q := 4) rfl dX12_holds_19 rfl ?_
  refine fr_aload_n (i := 0) (q := 0) rfl dX12_holds_21 rfl ?_
  refine fr_getR dX12_holds_22 rfl fl_X12_7 k_o r_o_a ?_
  refine fr_iconst (v := 4) (by decide) dX12_holds_25 rfl ?_
  obtain ⟨hz1, h⟩ := h
  refine fr_iald dX12_holds_26 rfl k_o_a hz1 ?_
  refine fr_icmp_ge (tgt := 107) dX12_holds_27 (by decide) rfl (fun hc => ?_) (fun hc => ?_)
  · have h := h.1 hc
    refine fr_iload_n (i := 1) (q := 1) rfl dX12_holds_107 rfl ?_
    refine fr_iload_n (i := 3) (q := 3) rfl dX12_holds_108 rfl ?_
    refine fr_if_eq (tgt := 118) dX12_holds_109 (by decide) rfl (fun hc => ?_) (fun hc => ?_)
    · have h := h.1 hc
      refine fr_iconst (v := 0) (by decide) dX12_holds_118 rfl ?_
      refine fr_ior dX12_holds_119 rfl ?_
      refine fr_topi (fun y2 hy2 => ?_)
      have h := h y2 hy2
      refine fr_istore_n (i := 1) (lv' := [(1, .int y2), (0, rf g o), (2, .int u2), (3, .int u3), (4, .int u4)]) dX12_holds_120 rfl (by decide) rfl ?_
      obtain ⟨y3, hy3⟩ : ∃ y : Int32, y = u2 + 1 := ⟨_, rfl⟩
      have h := h y3 hy3
      refine fr_iinc (q := 2) (v := y3) (lv' := [(2, .int y3), (1, .int y2), (0, rf g o), (3, .int u3), (4, .int u4)]) rfl (by rw [hy3]; rfl) dX12_holds_121 rfl (by decide) rfl ?_
      refine fr_goto (n := 4) dX12_holds_124 (by decide) ?_
      exact fr_sub [2, 1, 0] rfl h
    · have h := h.2 hc
      refine fr_iconst (v := 1) (by decide) dX12_holds_112 rfl ?_
      refine fr_iload_n (i := 2) (q := 2) rfl dX12_holds_113 rfl ?_
      refine fr_ishl dX12_holds_114 rfl ?_
      refine fr_goto (n := 119) dX12_holds_115 (by decide) ?_
      refine fr_ior dX12_holds_119 rfl ?_
      refine fr_topi (fun y4 hy4 => ?_)
      have h := h y4 hy4
      refine fr_istore_n (i := 1) (lv' := [(1, .int y4), (0, rf g o), (2, .int u2), (3, .int u3), (4, .int u4)]) dX12_holds_120 rfl (by decide) rfl ?_
      obtain ⟨y5, hy5⟩ : ∃ y : Int32, y = u2 + 1 := ⟨_, rfl⟩
      have h := h y5 hy5
      refine fr_iinc (q := 2) (v := y5) (lv' := [(2, .int y5), (1, .int y4), (0, rf g o), (3, .int u3), (4, .int u4)]) rfl (by rw [hy5]; rfl) dX12_holds_121 rfl (by decide) rfl ?_
      refine fr_goto (n := 4) dX12_holds_124 (by decide) ?_
      exact fr_sub [2, 1, 0] rfl h
  · have h := h.2 hc
    refine fr_sipush (v := 130) (by decide) dX12_holds_30 rfl ?_
    refine fr_iconst (v := 3) (by decide) dX12_holds_33 rfl ?_
    refine fr_iload (q := 4) rfl dX12_holds_34 rfl ?_
    refine fr_imul dX12_holds_36 rfl ?_
    refine fr_iadd dX12_holds_37 rfl ?_
    refine fr_topi (fun y6 hy6 => ?_)
    have h := h y6 hy6
    refine fr_istore (lv' := [(5, .int y6), (0, rf g o), (1, .int u1), (2, .int u2), (3, .int u3), (4, .int u4)]) dX12_holds_38 rfl (by decide) rfl ?_
    refine fr_iload_n (i := 3) (q := 4) rfl dX12_holds_40 rfl ?_
    refine fr_if_eq (tgt := 99) dX12_holds_41 (by decide) rfl (fun hc => ?_) (fun hc => ?_)
    · have h := h.1 hc
      refine fr_iconst (v := 0) (by decide) dX12_holds_99 rfl ?_
      refine fr_istore_n (i := 3) (lv' := [(3, .int 0), (5, .int y6), (0, rf g o), (1, .int u1), (2, .int u2), (4, .int u4)]) dX12_holds_100 rfl (by decide) rfl ?_
      obtain ⟨y7, hy7⟩ : ∃ y : Int32, y = u4 + 1 := ⟨_, rfl⟩
      have h := h y7 hy7
      refine fr_iinc (q := 5) (v := y7) (lv' := [(4, .int y7), (3, .int 0), (5, .int y6), (0, rf g o), (1, .int u1), (2, .int u2)]) rfl (by rw [hy7]; rfl) dX12_holds_101 rfl (by decide) rfl ?_
      refine fr_goto (n := 19) dX12_holds_104 (by decide) ?_
      exact fr_sub [3, 4, 5, 1, 0] rfl h
    · have h := h.2 hc
      refine fr_aload_n (i := 0) (q := 1) rfl dX12_holds_44 rfl ?_
      refine fr_aload_n (i := 0) (q := 1) rfl dX12_holds_45 rfl ?_
      refine fr_getR dX12_holds_46 rfl fl_X12_7 k_o r_o_a ?_
      refine fr_iload (q := 0) rfl dX12_holds_49 rfl ?_
      obtain ⟨hz8, h⟩ := h
      refine fr_iald dX12_holds_51 rfl k_o_a hz8 ?_
      obtain ⟨v9, hc10, h⟩ := h
      refine fr_callV2 (ν := mu_X12_isPose) (st2 := [.int v9]) (As := [.int (I o_a y6.toNatClampNeg)]) (st := []) (v := (some (.int v9))) (M1 := (Z, I, L)) dX12_holds_52 rfl ml_X12_110 mo_X12_isPose mi_X12_isPose (ci := 12) rfl rfl k_o (Nat.le_of_ble_eq_true rfl) rfl rfl (Nat.le_of_ble_eq_true rfl) hc10 rfl ?_
      refine fr_if_eq (tgt := 99) dX12_holds_55 (by decide) rfl (fun hc => ?_) (fun hc => ?_)
      · have h := h.1 hc
        refine fr_iconst (v := 0) (by decide) dX12_holds_99 rfl ?_
        refine fr_istore_n (i := 3) (lv' := [(3, .int 0), (5, .int y6), (0, rf g o), (1, .int u1), (2, .int u2), (4, .int u4)]) dX12_holds_100 rfl (by decide) rfl ?_
        obtain ⟨y11, hy11⟩ : ∃ y : Int32, y = u4 + 1 := ⟨_, rfl⟩
        have h := h y11 hy11
        refine fr_iinc (q := 5) (v := y11) (lv' := [(4, .int y11), (3, .int 0), (5, .int y6), (0, rf g o), (1, .int u1), (2, .int u2)]) rfl (by rw [hy11]; rfl) dX12_holds_101 rfl (by decide) rfl ?_
        refine fr_goto (n := 19) dX12_holds_104 (by decide) ?_
        exact fr_sub [3, 4, 5, 1, 0] rfl h
      · have h := h.2 hc
        refine fr_aload_n (i := 0) (q := 1) rfl dX12_holds_58 rfl ?_
        refine fr_iload_n (i := 2) (q := 3) rfl dX12_holds_59 rfl ?_
        refine fr_aload_n (i := 0) (q := 1) rfl dX12_holds_60 rfl ?_
        refine fr_getR dX12_holds_61 rfl fl_X12_7 k_o r_o_a ?_
        refine fr_iload (q := 0) rfl dX12_holds_64 rfl ?_
        obtain ⟨hz12, h⟩ := h
        refine fr_iald dX12_holds_66 rfl k_o_a hz12 ?_
        refine fr_aload_n (i := 0) (q := 1) rfl dX12_holds_67 rfl ?_
        refine fr_getR dX12_holds_68 rfl fl_X12_7 k_o r_o_a ?_
        refine fr_iload (q := 0) rfl dX12_holds_71 rfl ?_
        refine fr_iconst (v := 1) (by decide) dX12_holds_73 rfl ?_
        refine fr_iadd dX12_holds_74 rfl ?_
        obtain ⟨hz13, h⟩ := h
        refine fr_iald dX12_holds_75 rfl k_o_a hz13 ?_
        obtain ⟨v14, I15, L16, hc17, h⟩ := h
        refine fr_callV2 (ν := mu_X12_made) (st2 := [.int v14]) (As := [.int u2, .int (I o_a y6.toNatClampNeg), .int (I o_a (y6 + 1).toNatClampNeg)]) (st := []) (v := (some (.int v14))) (M1 := (Z, I15, L16)) dX12_holds_76 rfl ml_X12_294 mo_X12_made mi_X12_made (ci := 12) rfl rfl k_o (Nat.le_of_ble_eq_true rfl) rfl rfl (Nat.le_of_ble_eq_true rfl) hc17 rfl ?_
        refine fr_sipush (v := 200) (by decide) dX12_holds_79 rfl ?_
        refine fr_irem (by decide) dX12_holds_82 rfl ?_
        refine fr_aload_n (i := 0) (q := 1) rfl dX12_holds_83 rfl ?_
        refine fr_getR dX12_holds_84 rfl fl_X12_7 k_o r_o_a ?_
        refine fr_iload (q := 0) rfl dX12_holds_87 rfl ?_
        refine fr_iconst (v := 2) (by decide) dX12_holds_89 rfl ?_
        refine fr_iadd dX12_holds_90 rfl ?_
        obtain ⟨hz18, h⟩ := h
        refine fr_iald dX12_holds_91 rfl k_o_a hz18 ?_
        refine fr_icmp_ne (tgt := 99) dX12_holds_92 (by decide) rfl (fun hc => ?_) (fun hc => ?_)
        · have h := h.1 hc
          refine fr_iconst (v := 0) (by decide) dX12_holds_99 rfl ?_
          refine fr_istore_n (i := 3) (lv' := [(3, .int 0), (5, .int y6), (0, rf g o), (1, .int u1), (2, .int u2), (4, .int u4)]) dX12_holds_100 rfl (by decide) rfl ?_
          obtain ⟨y19, hy19⟩ : ∃ y : Int32, y = u4 + 1 := ⟨_, rfl⟩
          have h := h y19 hy19
          refine fr_iinc (q := 5) (v := y19) (lv' := [(4, .int y19), (3, .int 0), (5, .int y6), (0, rf g o), (1, .int u1), (2, .int u2)]) rfl (by rw [hy19]; rfl) dX12_holds_101 rfl (by decide) rfl ?_
          refine fr_goto (n := 19) dX12_holds_104 (by decide) ?_
          exact fr_sub [3, 4, 5, 1, 0] rfl h
        · have h := h.2 hc
          refine fr_iconst (v := 1) (by decide) dX12_holds_95 rfl ?_
          refine fr_goto (n := 100) dX12_holds_96 (by decide) ?_
          refine fr_istore_n (i := 3) (lv' := [(3, .int 1), (5, .int y6), (0, rf g o), (1, .int u1), (2, .int u2), (4, .int u4)]) dX12_holds_100 rfl (by decide) rfl ?_
          obtain ⟨y20, hy20⟩ : ∃ y : Int32, y = u4 + 1 := ⟨_, rfl⟩
          have h := h y20 hy20
          refine fr_iinc (q := 5) (v := y20) (lv' := [(4, .int y20), (3, .int 1), (5, .int y6), (0, rf g o), (1, .int u1), (2, .int u2)]) rfl (by rw [hy20]; rfl) dX12_holds_101 rfl (by decide) rfl ?_
          refine fr_goto (n := 19) dX12_holds_104 (by decide) ?_
          exact fr_sub [3, 4, 5, 1, 0] rfl h
abbrev Lp_X12_bumpsFrom_8 (g : GE) (d : Nat) (o : Nat) (u1 : Int32) (u3 : Int32) (u4 : Int32) (u5 : Int32) (M : Mem) (r : Option Value) (M' : Mem) : Prop := Fr g d mu_X12_bumpsFrom 8 [(0, rf g o), (1, .int u1), (3, .int u3), (4, .int u4), (5, .int u5)] [] M r M'
theorem cp_X12_bumpsFrom {g : GE} {Z : Zs} {I : Nat → Nat → Int32} {L : Nat → Nat → Int64} {r : Option Value} {M' : Mem} {o : Nat} {x1 : Int32} {x2 : Int32} (k_o : KM Z o 12) (h : Lp_X12_bumpsFrom_8 g 2 o x1 0 x2 0 (Z, I, L) r M') : Cl g 2 mu_X12_bumpsFrom [rf g o, .int x1, .int x2] (Z, I, L) r M' := by
  refine cl_of (lv := [(0, rf g o), (1, .int x1), (2, .int x2)]) (by decide) (Nat.le_of_ble_eq_true rfl) rfl ?_
  refine fr_iconst (v := 0) (by decide) dX12_bumpsFrom_0 rfl ?_
  refine fr_istore_n (i := 3) (lv' := [(3, .int 0), (0, rf g o), (1, .int x1), (2, .int x2)]) dX12_bumpsFrom_1 rfl (by decide) rfl ?_
  refine fr_iload_n (i := 2) (q := 3) rfl dX12_bumpsFrom_2 rfl ?_
  refine fr_istore (lv' := [(4, .int x2), (3, .int 0), (0, rf g o), (1, .int x1), (2, .int x2)]) dX12_bumpsFrom_3 rfl (by decide) rfl ?_
  refine fr_iconst (v := 0) (by decide) dX12_bumpsFrom_5 rfl ?_
  refine fr_istore (lv' := [(5, .int 0), (4, .int x2), (3, .int 0), (0, rf g o), (1, .int x1), (2, .int x2)]) dX12_bumpsFrom_6 rfl (by decide) rfl ?_
  exact fr_sub [3, 4, 2, 1, 0] rfl h
theorem wp_X12_bumpsFrom_8 {g : GE} {Z : Zs} {I : Nat → Nat → Int32} {L : Nat → Nat → Int64} {r : Option Value} {M' : Mem} {o : Nat} {u1 : Int32} {u3 : Int32} {u4 : Int32} {u5 : Int32} {o_a : Nat} (k_o : KM Z o 12) (r_o_a : Z.2.1 o 0 = some o_a) (k_o_a : KM Z o_a 13) (h : (vp_in 2 (Z.2.2.1 o_a) ∧ (((I o_a (2 : Int32).toNatClampNeg) ≤ u5 → (r = some (.int u3) ∧ M' = (Z, I, L))) ∧ (¬ (I o_a (2 : Int32).toNatClampNeg) ≤ u5 → (vp_in (50 + u5) (Z.2.2.1 o_a) ∧ (∃ (v3 : Int32), Cl g 1 mu_X12_laid [rf g o, .int u1, .int u4, .int (I o_a (50 + u5).toNatClampNeg)] (Z, I, L) (some (.int v3)) (Z, I, L) ∧ (∃ (v5 : Int32), Cl g 1 mu_X12_isIn [.int v3, .int 200, .int 399] (Z, I, L) (some (.int v5)) (Z, I, L) ∧ ((v5 = 0 → (∀ y7 : Int32, y7 = (u3 ||| 0) → (∀ y8 : Int32, y8 = (v3 - v3 / 200 * 200) → (∀ y9 : Int32, y9 = (u5 + 1) → Lp_X12_bumpsFrom_8 g 2 o u1 y7 y8 y9 (Z, I, L) r M')))) ∧ (¬ v5 = 0 → (∀ y10 : Int32, y10 = (u3 ||| (1 <<< (u5 &&& 31))) → (∀ y11 : Int32, y11 = (v3 - v3 / 200 * 200) → (∀ y12 : Int32, y12 = (u5 + 1) → Lp_X12_bumpsFrom_8 g 2 o u1 y10 y11 y12 (Z, I, L) r M')))))))))))) : Lp_X12_bumpsFrom_8 g 2 o u1 u3 u4 u5 (Z, I, L) r M' := by
  refine fr_iload (q := 4) rfl dX12_bumpsFrom_8 rfl ?_
  refine fr_aload_n (i := 0) (q := 0) rfl dX12_bumpsFrom_10 rfl ?_
  refine fr_getR dX12_bumpsFrom_11 rfl fl_X12_7 k_o r_o_a ?_
  refine fr_iconst (v := 2) (by decide) dX12_bumpsFrom_14 rfl ?_
  obtain ⟨hz1, h⟩ := h
  refine fr_iald dX12_bumpsFrom_15 rfl k_o_a hz1 ?_
  refine fr_icmp_ge (tgt := 77) dX12_bumpsFrom_16 (by decide) rfl (fun hc => ?_) (fun hc => ?_)
  · have h := h.1 hc
    refine fr_iload_n (i := 3) (q := 2) rfl dX12_bumpsFrom_77 rfl ?_
    exact fr_iret rfl dX12_bumpsFrom_78 h.1 h.2
  · have h := h.2 hc
    refine fr_aload_n (i := 0) (q := 0) rfl dX12_bumpsFrom_19 rfl ?_
    refine fr_iload_n (i := 1) (q := 1) rfl dX12_bumpsFrom_20 rfl ?_
    refine fr_iload (q := 3) rfl dX12_bumpsFrom_21 rfl ?_
    refine fr_aload_n (i := 0) (q := 0) rfl dX12_bumpsFrom_23 rfl ?_
    refine fr_getR dX12_bumpsFrom_24 rfl fl_X12_7 k_o r_o_a ?_
    refine fr_bipush (v := 50) (by decide) dX12_bumpsFrom_27 rfl ?_
    refine fr_iload (q := 4) rfl dX12_bumpsFrom_29 rfl ?_
    refine fr_iadd dX12_bumpsFrom_31 rfl ?_
    obtain ⟨hz2, h⟩ := h
    refine fr_iald dX12_bumpsFrom_32 rfl k_o_a hz2 ?_
    obtain ⟨v3, hc4, h⟩ := h
    refine fr_callV2 (ν := mu_X12_laid) (st2 := [.int v3]) (As := [.int u1, .int u4, .int (I o_a (50 + u5).toNatClampNeg)]) (st := []) (v := (some (.int v3))) (M1 := (Z, I, L)) dX12_bumpsFrom_33 rfl ml_X12_298 mo_X12_laid mi_X12_laid (ci := 12) rfl rfl k_o (Nat.le_of_ble_eq_true rfl) rfl rfl (Nat.le_of_ble_eq_true rfl) hc4 rfl ?_
    refine fr_istore (lv' := [(6, .int v3), (0, rf g o), (1, .int u1), (3, .int u3), (4, .int u4), (5, .int u5)]) dX12_bumpsFrom_36 rfl (by decide) rfl ?_
    refine fr_iload_n (i := 3) (q := 3) rfl dX12_bumpsFrom_38 rfl ?_
    refine fr_iload (q := 0) rfl dX12_bumpsFrom_39 rfl ?_
    refine fr_sipush (v := 200) (by decide) dX12_bumpsFrom_41 rfl ?_
    refine fr_sipush (v := 399) (by decide) dX12_bumpsFrom_44 rfl ?_
    obtain ⟨v5, hc6, h⟩ := h
    refine fr_callS2 (ν := mu_X12_isIn) (st2 := [.int v5, .int u3]) (As := [.int v3, .int 200, .int 399]) (st := [.int u3]) (v := (some (.int v5))) (M1 := (Z, I, L)) dX12_bumpsFrom_47 rfl ml_X12_95 mo_X12_isIn ms_X12_isIn (Nat.le_of_ble_eq_true rfl) rfl rfl (Nat.le_of_ble_eq_true rfl) hc6 rfl ?_
    refine fr_if_eq (tgt := 60) dX12_bumpsFrom_50 (by decide) rfl (fun hc => ?_) (fun hc => ?_)
    · have h := h.1 hc
      refine fr_iconst (v := 0) (by decide) dX12_bumpsFrom_60 rfl ?_
      refine fr_ior dX12_bumpsFrom_61 rfl ?_
      refine fr_topi (fun y7 hy7 => ?_)
      have h := h y7 hy7
      refine fr_istore_n (i := 3) (lv' := [(3, .int y7), (6, .int v3), (0, rf g o), (1, .int u1), (4, .int u4), (5, .int u5)]) dX12_bumpsFrom_62 rfl (by decide) rfl ?_
      refine fr_iload (q := 1) rfl dX12_bumpsFrom_63 rfl ?_
      refine fr_sipush (v := 200) (by decide) dX12_bumpsFrom_65 rfl ?_
      refine fr_irem (by decide) dX12_bumpsFrom_68 rfl ?_
      refine fr_topi (fun y8 hy8 => ?_)
      have h := h y8 hy8
      refine fr_istore (lv' := [(4, .int y8), (3, .int y7), (6, .int v3), (0, rf g o), (1, .int u1), (5, .int u5)]) dX12_bumpsFrom_69 rfl (by decide) rfl ?_
      obtain ⟨y9, hy9⟩ : ∃ y : Int32, y = u5 + 1 := ⟨_, rfl⟩
      have h := h y9 hy9
      refine fr_iinc (q := 5) (v := y9) (lv' := [(5, .int y9), (4, .int y8), (3, .int y7), (6, .int v3), (0, rf g o), (1, .int u1)]) rfl (by rw [hy9]; rfl) dX12_bumpsFrom_71 rfl (by decide) rfl ?_
      refine fr_goto (n := 8) dX12_bumpsFrom_74 (by decide) ?_
      exact fr_sub [4, 5, 2, 1, 0] rfl h
    · have h := h.2 hc
      refine fr_iconst (v := 1) (by decide) dX12_bumpsFrom_53 rfl ?_
      refine fr_iload (q := 5) rfl dX12_bumpsFrom_54 rfl ?_
      refine fr_ishl dX12_bumpsFrom_56 rfl ?_
      refine fr_goto (n := 61) dX12_bumpsFrom_57 (by decide) ?_
      refine fr_ior dX12_bumpsFrom_61 rfl ?_
      refine fr_topi (fun y10 hy10 => ?_)
      have h := h y10 hy10
      refine fr_istore_n (i := 3) (lv' := [(3, .int y10), (6, .int v3), (0, rf g o), (1, .int u1), (4, .int u4), (5, .int u5)]) dX12_bumpsFrom_62 rfl (by decide) rfl ?_
      refine fr_iload (q := 1) rfl dX12_bumpsFrom_63 rfl ?_
      refine fr_sipush (v := 200) (by decide) dX12_bumpsFrom_65 rfl ?_
      refine fr_irem (by decide) dX12_bumpsFrom_68 rfl ?_
      refine fr_topi (fun y11 hy11 => ?_)
      have h := h y11 hy11
      refine fr_istore (lv' := [(4, .int y11), (3, .int y10), (6, .int v3), (0, rf g o), (1, .int u1), (5, .int u5)]) dX12_bumpsFrom_69 rfl (by decide) rfl ?_
      obtain ⟨y12, hy12⟩ : ∃ y : Int32, y = u5 + 1 := ⟨_, rfl⟩
      have h := h y12 hy12
      refine fr_iinc (q := 5) (v := y12) (lv' := [(5, .int y12), (4, .int y11), (3, .int y10), (6, .int v3), (0, rf g o), (1, .int u1)]) rfl (by rw [hy12]; rfl) dX12_bumpsFrom_71 rfl (by decide) rfl ?_
      refine fr_goto (n := 8) dX12_bumpsFrom_74 (by decide) ?_
      exact fr_sub [4, 5, 2, 1, 0] rfl h
abbrev Lp_X12_dark_44 (g : GE) (d : Nat) (o : Nat) (u1 : Int32) (u2 : Int32) (u3 : Int32) (u4 : Int32) (u5 : Int32) (M : Mem) (r : Option Value) (M' : Mem) : Prop := Fr g d mu_X12_dark 44 [(0, rf g o), (1, .int u1), (2, .int u2), (3, .int u3), (4, .int u4), (5, .int u5)] [] M r M'
theorem cp_X12_dark {g : GE} {Z : Zs} {I : Nat → Nat → Int32} {L : Nat → Nat → Int64} {r : Option Value} {M' : Mem} {o : Nat} {x1 : Int32} {x2 : Int32} {x3 : Int32} {o_a : Nat} (k_o : KM Z o 12) (r_o_a : Z.2.1 o 0 = some o_a) (k_o_a : KM Z o_a 13) (h : (∃ (v1 : Int32), Cl g 2 mu_X12_isText [rf g o, .int x1] (Z, I, L) (some (.int v1)) (Z, I, L) ∧ ((v1 = 0 → (r = some (.int ((-1))) ∧ M' = (Z, I, L))) ∧ (¬ v1 = 0 → (vp_in 2 (Z.2.2.1 o_a) ∧ (∃ (v4 : Int32), Cl g 1 mu_X12_isIn [.int x2, .int 0, .int ((1 <<< ((I o_a (2 : Int32).toNatClampNeg) &&& 31)) - 1)] (Z, I, L) (some (.int v4)) (Z, I, L) ∧ ((v4 = 0 → (r = some (.int ((-1))) ∧ M' = (Z, I, L))) ∧ (¬ v4 = 0 → ((((-1)) ≤ x3 → (∃ (I6 : Nat → Nat → Int32) (L7 : Nat → Nat → Int64), Cl g 6 mu_X12_lay [rf g o, .int x1] (Z, I, L) none (Z, I6, L7) ∧ Lp_X12_dark_44 g 7 o x1 x2 x3 0 0 (Z, I6, L7) r M')) ∧ (¬ ((-1)) ≤ x3 → (r = some (.int ((-1))) ∧ M' = (Z, I, L)))))))))))) : Cl g 7 mu_X12_dark [rf g o, .int x1, .int x2, .int x3] (Z, I, L) r M' := by
  refine cl_of (lv := [(0, rf g o), (1, .int x1), (2, .int x2), (3, .int x3)]) (by decide) (Nat.le_of_ble_eq_true rfl) rfl ?_
  refine fr_aload_n (i := 0) (q := 0) rfl dX12_dark_0 rfl ?_
  refine fr_iload_n (i := 1) (q := 1) rfl dX12_dark_1 rfl ?_
  obtain ⟨v1, hc2, h⟩ := h
  refine fr_callV2 (ν := mu_X12_isText) (st2 := [.int v1]) (As := [.int x1]) (st := []) (v := (some (.int v1))) (M1 := (Z, I, L)) dX12_dark_2 rfl ml_X12_113 mo_X12_isText mi_X12_isText (ci := 12) rfl rfl k_o (Nat.le_of_ble_eq_true rfl) rfl rfl (Nat.le_of_ble_eq_true rfl) hc2 rfl ?_
  refine fr_if_eq (tgt := 31) dX12_dark_5 (by decide) rfl (fun hc => ?_) (fun hc => ?_)
  · have h := h.1 hc
    refine fr_iconst (v := (-1)) (by decide) dX12_dark_31 rfl ?_
    exact fr_iret rfl dX12_dark_32 h.1 h.2
  · have h := h.2 hc
    refine fr_iload_n (i := 2) (q := 2) rfl dX12_dark_8 rfl ?_
    refine fr_iconst (v := 0) (by decide) dX12_dark_9 rfl ?_
    refine fr_iconst (v := 1) (by decide) dX12_dark_10 rfl ?_
    refine fr_aload_n (i := 0) (q := 0) rfl dX12_dark_11 rfl ?_
    refine fr_getR dX12_dark_12 rfl fl_X12_7 k_o r_o_a ?_
    refine fr_iconst (v := 2) (by decide) dX12_dark_15 rfl ?_
    obtain ⟨hz3, h⟩ := h
    refine fr_iald dX12_dark_16 rfl k_o_a hz3 ?_
    refine fr_ishl dX12_dark_17 rfl ?_
    refine fr_iconst (v := 1) (by decide) dX12_dark_18 rfl ?_
    refine fr_isub dX12_dark_19 rfl ?_
    obtain ⟨v4, hc5, h⟩ := h
    refine fr_callS2 (ν := mu_X12_isIn) (st2 := [.int v4]) (As := [.int x2, .int 0, .int ((1 <<< ((I o_a (2 : Int32).toNatClampNeg) &&& 31)) - 1)]) (st := []) (v := (some (.int v4))) (M1 := (Z, I, L)) dX12_dark_20 rfl ml_X12_95 mo_X12_isIn ms_X12_isIn (Nat.le_of_ble_eq_true rfl) rfl rfl (Nat.le_of_ble_eq_true rfl) hc5 rfl ?_
    refine fr_if_eq (tgt := 31) dX12_dark_23 (by decide) rfl (fun hc => ?_) (fun hc => ?_)
    · have h := h.1 hc
      refine fr_iconst (v := (-1)) (by decide) dX12_dark_31 rfl ?_
      exact fr_iret rfl dX12_dark_32 h.1 h.2
    · have h := h.2 hc
      refine fr_iload_n (i := 3) (q := 3) rfl dX12_dark_26 rfl ?_
      refine fr_iconst (v := (-1)) (by decide) dX12_dark_27 rfl ?_
      refine fr_icmp_ge (tgt := 33) dX12_dark_28 (by decide) rfl (fun hc => ?_) (fun hc => ?_)
      · have h := h.1 hc
        refine fr_aload_n (i := 0) (q := 0) rfl dX12_dark_33 rfl ?_
        refine fr_iload_n (i := 1) (q := 1) rfl dX12_dark_34 rfl ?_
        obtain ⟨I6, L7, hc8, h⟩ := h
        refine fr_callV2 (ν := mu_X12_lay) (st2 := []) (As := [.int x1]) (st := []) (v := none) (M1 := (Z, I6, L7)) dX12_dark_35 rfl ml_X12_322 mo_X12_lay mi_X12_lay (ci := 12) rfl rfl k_o (Nat.le_of_ble_eq_true rfl) rfl rfl (Nat.le_of_ble_eq_true rfl) hc8 rfl ?_
        refine fr_iconst (v := 0) (by decide) dX12_dark_38 rfl ?_
        refine fr_istore (lv' := [(4, .int 0), (0, rf g o), (1, .int x1), (2, .int x2), (3, .int x3)]) dX12_dark_39 rfl (by decide) rfl ?_
        refine fr_iconst (v := 0) (by decide) dX12_dark_41 rfl ?_
        refine fr_istore (lv' := [(5, .int 0), (4, .int 0), (0, rf g o), (1, .int x1), (2, .int x2), (3, .int x3)]) dX12_dark_42 rfl (by decide) rfl ?_
        exact fr_sub [2, 3, 4, 5, 1, 0] rfl h
      · have h := h.2 hc
        refine fr_iconst (v := (-1)) (by decide) dX12_dark_31 rfl ?_
        exact fr_iret rfl dX12_dark_32 h.1 h.2
theorem wp_X12_dark_44 {g : GE} {Z : Zs} {I : Nat → Nat → Int32} {L : Nat → Nat → Int64} {r : Option Value} {M' : Mem} {o : Nat} {u1 : Int32} {u2 : Int32} {u3 : Int32} {u4 : Int32} {u5 : Int32} (k_o : KM Z o 12) (h : ((((4 * (I o 2)) * (I o 3)) ≤ u5 → ((¬ u3 = ((-1)) → (r = some (.int ((-1))) ∧ M' = (Z, I, L))) ∧ (u3 = ((-1)) → (r = some (.int u4) ∧ M' = (Z, I, L))))) ∧ (¬ ((4 * (I o 2)) * (I o 3)) ≤ u5 → (∃ (v1 : Int32), Cl g 2 mu_X12_isPose [rf g o, .int u5] (Z, I, L) (some (.int v1)) (Z, I, L) ∧ ((v1 = 0 → (∀ y3 : Int32, y3 = (u5 + 1) → Lp_X12_dark_44 g 7 o u1 u2 u3 u4 y3 (Z, I, L) r M')) ∧ (¬ v1 = 0 → (∃ (v4 : Int32), Cl g 2 mu_X12_bumpsFrom [rf g o, .int u1, .int u5] (Z, I, L) (some (.int v4)) (Z, I, L) ∧ ((v4 = u2 → ((¬ u4 = u3 → (∀ y6 : Int32, y6 = (u4 + 1) → (∀ y7 : Int32, y7 = (u5 + 1) → Lp_X12_dark_44 g 7 o u1 u2 u3 y6 y7 (Z, I, L) r M'))) ∧ (u4 = u3 → (r = some (.int u5) ∧ M' = (Z, I, L))))) ∧ (¬ v4 = u2 → (∀ y8 : Int32, y8 = (u5 + 1) → Lp_X12_dark_44 g 7 o u1 u2 u3 u4 y8 (Z, I, L) r M')))))))))) : Lp_X12_dark_44 g 7 o u1 u2 u3 u4 u5 (Z, I, L) r M' := by
  refine fr_iload (q := 5) rfl dX12_dark_44 rfl ?_
  refine fr_iconst (v := 4) (by decide) dX12_dark_46 rfl ?_
  refine fr_aload_n (i := 0) (q := 0) rfl dX12_dark_47 rfl ?_
  refine fr_getI dX12_dark_48 rfl fl_X12_85 k_o ?_
  refine fr_imul dX12_dark_51 rfl ?_
  refine fr_aload_n (i := 0) (q := 0) rfl dX12_dark_52 rfl ?_
  refine fr_getI dX12_dark_53 rfl fl_X12_88 k_o ?_
  refine fr_imul dX12_dark_56 rfl ?_
  refine fr_icmp_ge (tgt := 101) dX12_dark_57 (by decide) rfl (fun hc => ?_) (fun hc => ?_)
  · have h := h.1 hc
    refine fr_iload_n (i := 3) (q := 3) rfl dX12_dark_101 rfl ?_
    refine fr_iconst (v := (-1)) (by decide) dX12_dark_102 rfl ?_
    refine fr_icmp_ne (tgt := 111) dX12_dark_103 (by decide) rfl (fun hc => ?_) (fun hc => ?_)
    · have h := h.1 hc
      refine fr_iconst (v := (-1)) (by decide) dX12_dark_111 rfl ?_
      exact fr_iret rfl dX12_dark_112 h.1 h.2
    · have h := h.2 hc
      refine fr_iload (q := 4) rfl dX12_dark_106 rfl ?_
      refine fr_goto (n := 112) dX12_dark_108 (by decide) ?_
      exact fr_iret rfl dX12_dark_112 h.1 h.2
  · have h := h.2 hc
    refine fr_aload_n (i := 0) (q := 0) rfl dX12_dark_60 rfl ?_
    refine fr_iload (q := 5) rfl dX12_dark_61 rfl ?_
    obtain ⟨v1, hc2, h⟩ := h
    refine fr_callV2 (ν := mu_X12_isPose) (st2 := [.int v1]) (As := [.int u5]) (st := []) (v := (some (.int v1))) (M1 := (Z, I, L)) dX12_dark_63 rfl ml_X12_110 mo_X12_isPose mi_X12_isPose (ci := 12) rfl rfl k_o (Nat.le_of_ble_eq_true rfl) rfl rfl (Nat.le_of_ble_eq_true rfl) hc2 rfl ?_
    refine fr_if_eq (tgt := 95) dX12_dark_66 (by decide) rfl (fun hc => ?_) (fun hc => ?_)
    · have h := h.1 hc
      obtain ⟨y3, hy3⟩ : ∃ y : Int32, y = u5 + 1 := ⟨_, rfl⟩
      have h := h y3 hy3
      refine fr_iinc (q := 5) (v := y3) (lv' := [(5, .int y3), (0, rf g o), (1, .int u1), (2, .int u2), (3, .int u3), (4, .int u4)]) rfl (by rw [hy3]; rfl) dX12_dark_95 rfl (by decide) rfl ?_
      refine fr_goto (n := 44) dX12_dark_98 (by decide) ?_
      exact fr_sub [1, 2, 3, 4, 5, 0] rfl h
    · have h := h.2 hc
      refine fr_aload_n (i := 0) (q := 0) rfl dX12_dark_69 rfl ?_
      refine fr_iload_n (i := 1) (q := 1) rfl dX12_dark_70 rfl ?_
      refine fr_iload (q := 5) rfl dX12_dark_71 rfl ?_
      obtain ⟨v4, hc5, h⟩ := h
      refine fr_callV2 (ν := mu_X12_bumpsFrom) (st2 := [.int v4]) (As := [.int u1, .int u5]) (st := []) (v := (some (.int v4))) (M1 := (Z, I, L)) dX12_dark_73 rfl ml_X12_350 mo_X12_bumpsFrom mi_X12_bumpsFrom (ci := 12) rfl rfl k_o (Nat.le_of_ble_eq_true rfl) rfl rfl (Nat.le_of_ble_eq_true rfl) hc5 rfl ?_
      refine fr_iload_n (i := 2) (q := 2) rfl dX12_dark_76 rfl ?_
      refine fr_icmp_eq (tgt := 83) dX12_dark_77 (by decide) rfl (fun hc => ?_) (fun hc => ?_)
      · have h := h.1 hc
        refine fr_iload (q := 4) rfl dX12_dark_83 rfl ?_
        refine fr_iload_n (i := 3) (q := 3) rfl dX12_dark_85 rfl ?_
        refine fr_icmp_ne (tgt := 92) dX12_dark_86 (by decide) rfl (fun hc => ?_) (fun hc => ?_)
        · have h := h.1 hc
          obtain ⟨y6, hy6⟩ : ∃ y : Int32, y = u4 + 1 := ⟨_, rfl⟩
          have h := h y6 hy6
          refine fr_iinc (q := 4) (v := y6) (lv' := [(4, .int y6), (0, rf g o), (1, .int u1), (2, .int u2), (3, .int u3), (5, .int u5)]) rfl (by rw [hy6]; rfl) dX12_dark_92 rfl (by decide) rfl ?_
          obtain ⟨y7, hy7⟩ : ∃ y : Int32, y = u5 + 1 := ⟨_, rfl⟩
          have h := h y7 hy7
          refine fr_iinc (q := 5) (v := y7) (lv' := [(5, .int y7), (4, .int y6), (0, rf g o), (1, .int u1), (2, .int u2), (3, .int u3)]) rfl (by rw [hy7]; rfl) dX12_dark_95 rfl (by decide) rfl ?_
          refine fr_goto (n := 44) dX12_dark_98 (by decide) ?_
          exact fr_sub [2, 3, 4, 5, 1, 0] rfl h
        · have h := h.2 hc
          refine fr_iload (q := 5) rfl dX12_dark_89 rfl ?_
          exact fr_iret rfl dX12_dark_91 h.1 h.2
      · have h := h.2 hc
        refine fr_goto (n := 95) dX12_dark_80 (by decide) ?_
        obtain ⟨y8, hy8⟩ : ∃ y : Int32, y = u5 + 1 := ⟨_, rfl⟩
        have h := h y8 hy8
        refine fr_iinc (q := 5) (v := y8) (lv' := [(5, .int y8), (0, rf g o), (1, .int u1), (2, .int u2), (3, .int u3), (4, .int u4)]) rfl (by rw [hy8]; rfl) dX12_dark_95 rfl (by decide) rfl ?_
        refine fr_goto (n := 44) dX12_dark_98 (by decide) ?_
        exact fr_sub [1, 2, 3, 4, 5, 0] rfl h
abbrev Lp_X12_findLikings_9 (g : GE) (d : Nat) (o : Nat) (u1 : Int32) (u2 : Int32) (u3 : Int32) (M : Mem) (r : Option Value) (M' : Mem) : Prop := Fr g d mu_X12_findLikings 9 [(0, rf g o), (1, .int u1), (2, .int u2), (3, .int u3)] [] M r M'
theorem cp_X12_findLikings {g : GE} {Z : Zs} {I : Nat → Nat → Int32} {L : Nat → Nat → Int64} {r : Option Value} {M' : Mem} {o : Nat} {x1 : Int32} (k_o : KM Z o 12) (h : (∃ (v1 : Int32), Cl g 1 mu_X12_clauseOf [rf g o, .int x1, .int 2] (Z, I, L) (some (.int v1)) (Z, I, L) ∧ Lp_X12_findLikings_9 g 4 o x1 v1 0 (Z, I, L) r M')) : Cl g 4 mu_X12_findLikings [rf g o, .int x1] (Z, I, L) r M' := by
  refine cl_of (lv := [(0, rf g o), (1, .int x1)]) (by decide) (Nat.le_of_ble_eq_true rfl) rfl ?_
  refine fr_aload_n (i := 0) (q := 0) rfl dX12_findLikings_0 rfl ?_
  refine fr_iload_n (i := 1) (q := 1) rfl dX12_findLikings_1 rfl ?_
  refine fr_iconst (v := 2) (by decide) dX12_findLikings_2 rfl ?_
  obtain ⟨v1, hc2, h⟩ := h
  refine fr_callV2 (ν := mu_X12_clauseOf) (st2 := [.int v1]) (As := [.int x1, .int 2]) (st := []) (v := (some (.int v1))) (M1 := (Z, I, L)) dX12_findLikings_3 rfl ml_X12_279 mo_X12_clauseOf mi_X12_clauseOf (ci := 12) rfl rfl k_o (Nat.le_of_ble_eq_true rfl) rfl rfl (Nat.le_of_ble_eq_true rfl) hc2 rfl ?_
  refine fr_istore_n (i := 2) (lv' := [(2, .int v1), (0, rf g o), (1, .int x1)]) dX12_findLikings_6 rfl (by decide) rfl ?_
  refine fr_iconst (v := 0) (by decide) dX12_findLikings_7 rfl ?_
  refine fr_istore_n (i := 3) (lv' := [(3, .int 0), (2, .int v1), (0, rf g o), (1, .int x1)]) dX12_findLikings_8 rfl (by decide) rfl ?_
  exact fr_sub [2, 3, 1, 0] rfl h
abbrev Lp_X12_findLikings_22 (g : GE) (d : Nat) (o : Nat) (u1 : Int32) (u2 : Int32) (u3 : Int32) (u4 : Int32) (M : Mem) (r : Option Value) (M' : Mem) : Prop := Fr g d mu_X12_findLikings 22 [(0, rf g o), (1, .int u1), (2, .int u2), (3, .int u3), (4, .int u4)] [] M r M'
theorem wp_X12_findLikings_9 {g : GE} {Z : Zs} {I : Nat → Nat → Int32} {L : Nat → Nat → Int64} {r : Option Value} {M' : Mem} {o : Nat} {u1 : Int32} {u2 : Int32} {u3 : Int32} {o_a : Nat} (k_o : KM Z o 12) (r_o_a : Z.2.1 o 0 = some o_a) (k_o_a : KM Z o_a 13) (h : (vp_in 5 (Z.2.2.1 o_a) ∧ (((I o_a (5 : Int32).toNatClampNeg) ≤ u3 → (r = none ∧ M' = (Z, I, L))) ∧ (¬ (I o_a (5 : Int32).toNatClampNeg) ≤ u3 → Lp_X12_findLikings_22 g 4 o u1 u2 u3 0 (Z, I, L) r M')))) : Lp_X12_findLikings_9 g 4 o u1 u2 u3 (Z, I, L) r M' := by
  refine fr_iload_n (i := 3) (q := 3) rfl dX12_findLikings_9 rfl ?_
  refine fr_aload_n (i := 0) (q := 0) rfl dX12_findLikings_10 rfl ?_
  refine fr_getR dX12_findLikings_11 rfl fl_X12_7 k_o r_o_a ?_
  refine fr_iconst (v := 5) (by decide) dX12_findLikings_14 rfl ?_
  obtain ⟨hz1, h⟩ := h
  refine fr_iald dX12_findLikings_15 rfl k_o_a hz1 ?_
  refine fr_icmp_ge (tgt := 164) dX12_findLikings_16 (by decide) rfl (fun hc => ?_) (fun hc => ?_)
  · have h := h.1 hc
    exact fr_vret rfl dX12_findLikings_164 h.1 h.2
  · have h := h.2 hc
    refine fr_iconst (v := 0) (by decide) dX12_findLikings_19 rfl ?_
    refine fr_istore (lv' := [(4, .int 0), (0, rf g o), (1, .int u1), (2, .int u2), (3, .int u3)]) dX12_findLikings_20 rfl (by decide) rfl ?_
    exact fr_sub [1, 2, 3, 4, 0] rfl h
abbrev Lp_X12_findLikings_37 (g : GE) (d : Nat) (o : Nat) (u1 : Int32) (u2 : Int32) (u3 : Int32) (u4 : Int32) (u5 : Int32) (M : Mem) (r : Option Value) (M' : Mem) : Prop := Fr g d mu_X12_findLikings 37 [(0, rf g o), (1, .int u1), (2, .int u2), (3, .int u3), (4, .int u4), (5, .int u5)] [] M r M'
theorem wp_X12_findLikings_22 {g : GE} {Z : Zs} {I : Nat → Nat → Int32} {L : Nat → Nat → Int64} {r : Option Value} {M' : Mem} {o : Nat} {u1 : Int32} {u2 : Int32} {u3 : Int32} {u4 : Int32} {o_a : Nat} (k_o : KM Z o 12) (r_o_a : Z.2.1 o 0 = some o_a) (k_o_a : KM Z o_a 13) (h : (vp_in 6 (Z.2.2.1 o_a) ∧ (((I o_a (6 : Int32).toNatClampNeg) ≤ u4 → (∀ y2 : Int32, y2 = (u3 + 1) → Lp_X12_findLikings_9 g 4 o u1 u2 y2 (Z, I, L) r M')) ∧ (¬ (I o_a (6 : Int32).toNatClampNeg) ≤ u4 → Lp_X12_findLikings_37 g 4 o u1 u2 u3 u4 0 (Z, I, L) r M')))) : Lp_X12_findLikings_22 g 4 o u1 u2 u3 u4 (Z, I, L) r M' := by
  refine fr_iload (q := 4) rfl dX12_findLikings_22 rfl ?_
  refine fr_aload_n (i := 0) (q := 0) rfl dX12_findLikings_24 rfl ?_
  refine fr_getR dX12_findLikings_25 rfl fl_X12_7 k_o r_o_a ?_
  refine fr_bipush (v := 6) (by decide) dX12_findLikings_28 rfl ?_
  obtain ⟨hz1, h⟩ := h
  refine fr_iald dX12_findLikings_30 rfl k_o_a hz1 ?_
  refine fr_icmp_ge (tgt := 158) dX12_findLikings_31 (by decide) rfl (fun hc => ?_) (fun hc => ?_)
  · have h := h.1 hc
    obtain ⟨y2, hy2⟩ : ∃ y : Int32, y = u3 + 1 := ⟨_, rfl⟩
    have h := h y2 hy2
    refine fr_iinc (q := 3) (v := y2) (lv' := [(3, .int y2), (0, rf g o), (1, .int u1), (2, .int u2), (4, .int u4)]) rfl (by rw [hy2]; rfl) dX12_findLikings_158 rfl (by decide) rfl ?_
    refine fr_goto (n := 9) dX12_findLikings_161 (by decide) ?_
    exact fr_sub [1, 2, 3, 0] rfl h
  · have h := h.2 hc
    refine fr_iconst (v := 0) (by decide) dX12_findLikings_34 rfl ?_
    refine fr_istore (lv' := [(5, .int 0), (0, rf g o), (1, .int u1), (2, .int u2), (3, .int u3), (4, .int u4)]) dX12_findLikings_35 rfl (by decide) rfl ?_
    exact fr_sub [1, 2, 3, 4, 5, 0] rfl h
theorem wp_X12_findLikings_37 {g : GE} {Z : Zs} {I : Nat → Nat → Int32} {L : Nat → Nat → Int64} {r : Option Value} {M' : Mem} {o : Nat} {u1 : Int32} {u2 : Int32} {u3 : Int32} {u4 : Int32} {u5 : Int32} {o_named : Nat} {o_a : Nat} {o_likings : Nat} {o_values : Nat} (k_o : KM Z o 12) (r_o_named : Z.2.1 o 24 = some o_named) (k_o_named : KM Z o_named 13) (r_o_a : Z.2.1 o 0 = some o_a) (k_o_a : KM Z o_a 13) (r_o_likings : Z.2.1 o 38 = some o_likings) (k_o_likings : KM Z o_likings 14) (r_o_values : Z.2.1 o 25 = some o_values) (k_o_values : KM Z o_values 14) (h : ((2 ≤ u5 → (∀ y1 : Int32, y1 = (u4 + 1) → Lp_X12_findLikings_22 g 4 o u1 u2 u3 y1 (Z, I, L) r M')) ∧ (¬ 2 ≤ u5 → (vp_in 6 (Z.2.2.1 o_named) ∧ (∀ I3 : Nat → Nat → Int32, I3 = rw1 I o_named (upd (I o_named) (6 : Int32).toNatClampNeg u3) → (vp_in 7 (Z.2.2.1 o_named) ∧ (∀ I5 : Nat → Nat → Int32, I5 = rw1 I3 o_named (upd (I3 o_named) (7 : Int32).toNatClampNeg u4) → (vp_in (190 + u3) (Z.2.2.1 o_a) ∧ (vp_in 8 (Z.2.2.1 o_named) ∧ (∀ I8 : Nat → Nat → Int32, I8 = rw1 I5 o_named (upd (I5 o_named) (8 : Int32).toNatClampNeg (I5 o_a (190 + u3).toNatClampNeg)) → (vp_in (196 + u4) (Z.2.2.1 o_a) ∧ (vp_in 9 (Z.2.2.1 o_named) ∧ (∀ I11 : Nat → Nat → Int32, I11 = rw1 I8 o_named (upd (I8 o_named) (9 : Int32).toNatClampNeg (I8 o_a (196 + u4).toNatClampNeg)) → (vp_in 10 (Z.2.2.1 o_named) ∧ (∀ I13 : Nat → Nat → Int32, I13 = rw1 I11 o_named (upd (I11 o_named) (10 : Int32).toNatClampNeg u5) → ((u2 < 0 → ((0 ≤ u2 → (vp_in 0 (Z.2.2.1 o_values) ∧ (vp_in (((36 * u5) + (6 * u3)) + u4) (Z.2.2.1 o_likings) ∧ (∀ L16 : Nat → Nat → Int64, L16 = rw1 L o_likings (vp_updL (L o_likings) (((36 * u5) + (6 * u3)) + u4).toNatClampNeg (L o_values (0 : Int32).toNatClampNeg)) → (∀ y17 : Int32, y17 = (u5 + 1) → Lp_X12_findLikings_37 g 4 o u1 u2 u3 u4 y17 (Z, I13, L16) r M'))))) ∧ (¬ 0 ≤ u2 → (vp_in (((36 * u5) + (6 * u3)) + u4) (Z.2.2.1 o_likings) ∧ (∀ L19 : Nat → Nat → Int64, L19 = rw1 L o_likings (vp_updL (L o_likings) (((36 * u5) + (6 * u3)) + u4).toNatClampNeg 0) → (∀ y20 : Int32, y20 = (u5 + 1) → Lp_X12_findLikings_37 g 4 o u1 u2 u3 u4 y20 (Z, I13, L19) r M')))))) ∧ (¬ u2 < 0 → (∃ (I21 : Nat → Nat → Int32) (L22 : Nat → Nat → Int64), Cl g 3 mu_X12_work [rf g o, .int u1, .int u2] (Z, I13, L) none (Z, I21, L22) ∧ ((0 ≤ u2 → (vp_in 0 (Z.2.2.1 o_values) ∧ (vp_in (((36 * u5) + (6 * u3)) + u4) (Z.2.2.1 o_likings) ∧ (∀ L26 : Nat → Nat → Int64, L26 = rw1 L22 o_likings (vp_updL (L22 o_likings) (((36 * u5) + (6 * u3)) + u4).toNatClampNeg (L22 o_values (0 : Int32).toNatClampNeg)) → (∀ y27 : Int32, y27 = (u5 + 1) → Lp_X12_findLikings_37 g 4 o u1 u2 u3 u4 y27 (Z, I21, L26) r M'))))) ∧ (¬ 0 ≤ u2 → (vp_in (((36 * u5) + (6 * u3)) + u4) (Z.2.2.1 o_likings) ∧ (∀ L29 : Nat → Nat → Int64, L29 = rw1 L22 o_likings (vp_updL (L22 o_likings) (((36 * u5) + (6 * u3)) + u4).toNatClampNeg 0) → (∀ y30 : Int32, y30 = (u5 + 1) → Lp_X12_findLikings_37 g 4 o u1 u2 u3 u4 y30 (Z, I21, L29) r M'))))))))))))))))))))))) : Lp_X12_findLikings_37 g 4 o u1 u2 u3 u4 u5 (Z, I, L) r M' := by
  refine fr_iload (q := 5) rfl dX12_findLikings_37 rfl ?_
  refine fr_iconst (v := 2) (by decide) dX12_findLikings_39 rfl ?_
  refine fr_icmp_ge (tgt := 152) dX12_findLikings_40 (by decide) rfl (fun hc => ?_) (fun hc => ?_)
  · have h := h.1 hc
    obtain ⟨y1, hy1⟩ : ∃ y : Int32, y = u4 + 1 := ⟨_, rfl⟩
    have h := h y1 hy1
    refine fr_iinc (q := 4) (v := y1) (lv' := [(4, .int y1), (0, rf g o), (1, .int u1), (2, .int u2), (3, .int u3), (5, .int u5)]) rfl (by rw [hy1]; rfl) dX12_findLikings_152 rfl (by decide) rfl ?_
    refine fr_goto (n := 22) dX12_findLikings_155 (by decide) ?_
    exact fr_sub [1, 2, 3, 4, 0] rfl h
  · have h := h.2 hc
    refine fr_aload_n (i := 0) (q := 0) rfl dX12_findLikings_43 rfl ?_
    refine fr_getR dX12_findLikings_44 rfl fl_X12_32 k_o r_o_named ?_
    refine fr_bipush (v := 6) (by decide) dX12_findLikings_47 rfl ?_
    refine fr_iload_n (i := 3) (q := 3) rfl dX12_findLikings_49 rfl ?_
    obtain ⟨hz2, h⟩ := h
    refine fr_iast dX12_findLikings_50 rfl k_o_named hz2 ?_
    refine fr_memI (fun I3 hI3 => ?_)
    have h := h I3 hI3
    refine fr_aload_n (i := 0) (q := 0) rfl dX12_findLikings_51 rfl ?_
    refine fr_getR dX12_findLikings_52 rfl fl_X12_32 k_o r_o_named ?_
    refine fr_bipush (v := 7) (by decide) dX12_findLikings_55 rfl ?_
    refine fr_iload (q := 4) rfl dX12_findLikings_57 rfl ?_
    obtain ⟨hz4, h⟩ := h
    refine fr_iast dX12_findLikings_59 rfl k_o_named hz4 ?_
    refine fr_memI (fun I5 hI5 => ?_)
    have h := h I5 hI5
    refine fr_aload_n (i := 0) (q := 0) rfl dX12_findLikings_60 rfl ?_
    refine fr_getR dX12_findLikings_61 rfl fl_X12_32 k_o r_o_named ?_
    refine fr_bipush (v := 8) (by decide) dX12_findLikings_64 rfl ?_
    refine fr_aload_n (i := 0) (q := 0) rfl dX12_findLikings_66 rfl ?_
    refine fr_getR dX12_findLikings_67 rfl fl_X12_7 k_o r_o_a ?_
    refine fr_sipush (v := 190) (by decide) dX12_findLikings_70 rfl ?_
    refine fr_iload_n (i := 3) (q := 3) rfl dX12_findLikings_73 rfl ?_
    refine fr_iadd dX12_findLikings_74 rfl ?_
    obtain ⟨hz6, h⟩ := h
    refine fr_iald dX12_findLikings_75 rfl k_o_a hz6 ?_
    obtain ⟨hz7, h⟩ := h
    refine fr_iast dX12_findLikings_76 rfl k_o_named hz7 ?_
    refine fr_memI (fun I8 hI8 => ?_)
    have h := h I8 hI8
    refine fr_aload_n (i := 0) (q := 0) rfl dX12_findLikings_77 rfl ?_
    refine fr_getR dX12_findLikings_78 rfl fl_X12_32 k_o r_o_named ?_
    refine fr_bipush (v := 9) (by decide) dX12_findLikings_81 rfl ?_
    refine fr_aload_n (i := 0) (q := 0) rfl dX12_findLikings_83 rfl ?_
    refine fr_getR dX12_findLikings_84 rfl fl_X12_7 k_o r_o_a ?_
    refine fr_sipush (v := 196) (by decide) dX12_findLikings_87 rfl ?_
    refine fr_iload (q := 4) rfl dX12_findLikings_90 rfl ?_
    refine fr_iadd dX12_findLikings_92 rfl ?_
    obtain ⟨hz9, h⟩ := h
    refine fr_iald dX12_findLikings_93 rfl k_o_a hz9 ?_
    obtain ⟨hz10, h⟩ := h
    refine fr_iast dX12_findLikings_94 rfl k_o_named hz10 ?_
    refine fr_memI (fun I11 hI11 => ?_)
    have h := h I11 hI11
    refine fr_aload_n (i := 0) (q := 0) rfl dX12_findLikings_95 rfl ?_
    refine fr_getR dX12_findLikings_96 rfl fl_X12_32 k_o r_o_named ?_
    refine fr_bipush (v := 10) (by decide) dX12_findLikings_99 rfl ?_
    refine fr_iload (q := 5) rfl dX12_findLikings_101 rfl ?_
    obtain ⟨hz12, h⟩ := h
    refine fr_iast dX12_findLikings_103 rfl k_o_named hz12 ?_
    refine fr_memI (fun I13 hI13 => ?_)
    have h := h I13 hI13
    refine fr_iload_n (i := 2) (q := 2) rfl dX12_findLikings_104 rfl ?_
    refine fr_if_lt (tgt := 114) dX12_findLikings_105 (by decide) rfl (fun hc => ?_) (fun hc => ?_)
    · have h := h.1 hc
      refine fr_aload_n (i := 0) (q := 0) rfl dX12_findLikings_114 rfl ?_
      refine fr_getR dX12_findLikings_115 rfl fl_X12_70 k_o r_o_likings ?_
      refine fr_bipush (v := 36) (by decide) dX12_findLikings_118 rfl ?_
      refine fr_iload (q := 5) rfl dX12_findLikings_120 rfl ?_
      refine fr_imul dX12_findLikings_122 rfl ?_
      refine fr_bipush (v := 6) (by decide) dX12_findLikings_123 rfl ?_
      refine fr_iload_n (i := 3) (q := 3) rfl dX12_findLikings_125 rfl ?_
      refine fr_imul dX12_findLikings_126 rfl ?_
      refine fr_iadd dX12_findLikings_127 rfl ?_
      refine fr_iload (q := 4) rfl dX12_findLikings_128 rfl ?_
      refine fr_iadd dX12_findLikings_130 rfl ?_
      refine fr_iload_n (i := 2) (q := 2) rfl dX12_findLikings_131 rfl ?_
      refine fr_if_ge (tgt := 139) dX12_findLikings_132 (by decide) rfl (fun hc => ?_) (fun hc => ?_)
      · have h := h.1 hc
        refine fr_aload_n (i := 0) (q := 0) rfl dX12_findLikings_139 rfl ?_
        refine fr_getR dX12_findLikings_140 rfl fl_X12_35 k_o r_o_values ?_
        refine fr_iconst (v := 0) (by decide) dX12_findLikings_143 rfl ?_
        obtain ⟨hz14, h⟩ := h
        refine fr_lald dX12_findLikings_144 rfl k_o_values hz14 ?_
        obtain ⟨hz15, h⟩ := h
        refine fr_last dX12_findLikings_145 rfl k_o_likings hz15 ?_
        refine fr_memL (fun L16 hL16 => ?_)
        have h := h L16 hL16
        obtain ⟨y17, hy17⟩ : ∃ y : Int32, y = u5 + 1 := ⟨_, rfl⟩
        have h := h y17 hy17
        refine fr_iinc (q := 5) (v := y17) (lv' := [(5, .int y17), (0, rf g o), (1, .int u1), (2, .int u2), (3, .int u3), (4, .int u4)]) rfl (by rw [hy17]; rfl) dX12_findLikings_146 rfl (by decide) rfl ?_
        refine fr_goto (n := 37) dX12_findLikings_149 (by decide) ?_
        exact fr_sub [1, 2, 3, 4, 5, 0] rfl h
      · have h := h.2 hc
        refine fr_lconst (v := 0) (by decide) dX12_findLikings_135 rfl ?_
        refine fr_goto (n := 145) dX12_findLikings_136 (by decide) ?_
        obtain ⟨hz18, h⟩ := h
        refine fr_last dX12_findLikings_145 rfl k_o_likings hz18 ?_
        refine fr_memL (fun L19 hL19 => ?_)
        have h := h L19 hL19
        obtain ⟨y20, hy20⟩ : ∃ y : Int32, y = u5 + 1 := ⟨_, rfl⟩
        have h := h y20 hy20
        refine fr_iinc (q := 5) (v := y20) (lv' := [(5, .int y20), (0, rf g o), (1, .int u1), (2, .int u2), (3, .int u3), (4, .int u4)]) rfl (by rw [hy20]; rfl) dX12_findLikings_146 rfl (by decide) rfl ?_
        refine fr_goto (n := 37) dX12_findLikings_149 (by decide) ?_
        exact fr_sub [1, 2, 3, 4, 5, 0] rfl h
    · have h := h.2 hc
      refine fr_aload_n (i := 0) (q := 0) rfl dX12_findLikings_108 rfl ?_
      refine fr_iload_n (i := 1) (q := 1) rfl dX12_findLikings_109 rfl ?_
      refine fr_iload_n (i := 2) (q := 2) rfl dX12_findLikings_110 rfl ?_
      obtain ⟨I21, L22, hc23, h⟩ := h
      refine fr_callV2 (ν := mu_X12_work) (st2 := []) (As := [.int u1, .int u2]) (st := []) (v := none) (M1 := (Z, I21, L22)) dX12_findLikings_111 rfl ml_X12_283 mo_X12_work mi_X12_work (ci := 12) rfl rfl k_o (Nat.le_of_ble_eq_true rfl) rfl rfl (Nat.le_of_ble_eq_true rfl) hc23 rfl ?_
      refine fr_aload_n (i := 0) (q := 0) rfl dX12_findLikings_114 rfl ?_
      refine fr_getR dX12_findLikings_115 rfl fl_X12_70 k_o r_o_likings ?_
      refine fr_bipush (v := 36) (by decide) dX12_findLikings_118 rfl ?_
      refine fr_iload (q := 5) rfl dX12_findLikings_120 rfl ?_
      refine fr_imul dX12_findLikings_122 rfl ?_
      refine fr_bipush (v := 6) (by decide) dX12_findLikings_123 rfl ?_
      refine fr_iload_n (i := 3) (q := 3) rfl dX12_findLikings_125 rfl ?_
      refine fr_imul dX12_findLikings_126 rfl ?_
      refine fr_iadd dX12_findLikings_127 rfl ?_
      refine fr_iload (q := 4) rfl dX12_findLikings_128 rfl ?_
      refine fr_iadd dX12_findLikings_130 rfl ?_
      refine fr_iload_n (i := 2) (q := 2) rfl dX12_findLikings_131 rfl ?_
      refine fr_if_ge (tgt := 139) dX12_findLikings_132 (by decide) rfl (fun hc => ?_) (fun hc => ?_)
      · have h := h.1 hc
        refine fr_aload_n (i := 0) (q := 0) rfl dX12_findLikings_139 rfl ?_
        refine fr_getR dX12_findLikings_140 rfl fl_X12_35 k_o r_o_values ?_
        refine fr_iconst (v := 0) (by decide) dX12_findLikings_143 rfl ?_
        obtain ⟨hz24, h⟩ := h
        refine fr_lald dX12_findLikings_144 rfl k_o_values hz24 ?_
        obtain ⟨hz25, h⟩ := h
        refine fr_last dX12_findLikings_145 rfl k_o_likings hz25 ?_
        refine fr_memL (fun L26 hL26 => ?_)
        have h := h L26 hL26
        obtain ⟨y27, hy27⟩ : ∃ y : Int32, y = u5 + 1 := ⟨_, rfl⟩
        have h := h y27 hy27
        refine fr_iinc (q := 5) (v := y27) (lv' := [(5, .int y27), (0, rf g o), (1, .int u1), (2, .int u2), (3, .int u3), (4, .int u4)]) rfl (by rw [hy27]; rfl) dX12_findLikings_146 rfl (by decide) rfl ?_
        refine fr_goto (n := 37) dX12_findLikings_149 (by decide) ?_
        exact fr_sub [1, 2, 3, 4, 5, 0] rfl h
      · have h := h.2 hc
        refine fr_lconst (v := 0) (by decide) dX12_findLikings_135 rfl ?_
        refine fr_goto (n := 145) dX12_findLikings_136 (by decide) ?_
        obtain ⟨hz28, h⟩ := h
        refine fr_last dX12_findLikings_145 rfl k_o_likings hz28 ?_
        refine fr_memL (fun L29 hL29 => ?_)
        have h := h L29 hL29
        obtain ⟨y30, hy30⟩ : ∃ y : Int32, y = u5 + 1 := ⟨_, rfl⟩
        have h := h y30 hy30
        refine fr_iinc (q := 5) (v := y30) (lv' := [(5, .int y30), (0, rf g o), (1, .int u1), (2, .int u2), (3, .int u3), (4, .int u4)]) rfl (by rw [hy30]; rfl) dX12_findLikings_146 rfl (by decide) rfl ?_
        refine fr_goto (n := 37) dX12_findLikings_149 (by decide) ?_
        exact fr_sub [1, 2, 3, 4, 5, 0] rfl h
theorem cp_X12_likes {g : GE} {Z : Zs} {I : Nat → Nat → Int32} {L : Nat → Nat → Int64} {r : Option Value} {M' : Mem} {o : Nat} {x1 : Int32} {x2 : Int32} {x3 : Int32} {o_likings : Nat} (k_o : KM Z o 12) (r_o_likings : Z.2.1 o 38 = some o_likings) (k_o_likings : KM Z o_likings 14) (h : ((¬ x1 = 0 → (vp_in ((36 + (6 * x3)) + x2) (Z.2.2.1 o_likings) ∧ (r = some (.long (L o_likings ((36 + (6 * x3)) + x2).toNatClampNeg)) ∧ M' = (Z, I, L)))) ∧ (x1 = 0 → (vp_in ((6 * x2) + x3) (Z.2.2.1 o_likings) ∧ (r = some (.long (L o_likings ((6 * x2) + x3).toNatClampNeg)) ∧ M' = (Z, I, L)))))) : Cl g 1 mu_X12_likes [rf g o, .int x1, .int x2, .int x3] (Z, I, L) r M' := by
  refine cl_of (lv := [(0, rf g o), (1, .int x1), (2, .int x2), (3, .int x3)]) (by decide) (Nat.le_of_ble_eq_true rfl) rfl ?_
  refine fr_iload_n (i := 1) (q := 1) rfl dX12_likes_0 rfl ?_
  refine fr_if_ne (tgt := 18) dX12_likes_1 (by decide) rfl (fun hc => ?_) (fun hc => ?_)
  · have h := h.1 hc
    refine fr_aload_n (i := 0) (q := 0) rfl dX12_likes_18 rfl ?_
    refine fr_getR dX12_likes_19 rfl fl_X12_70 k_o r_o_likings ?_
    refine fr_bipush (v := 36) (by decide) dX12_likes_22 rfl ?_
    refine fr_bipush (v := 6) (by decide) dX12_likes_24 rfl ?_
    refine fr_iload_n (i := 3) (q := 3) rfl dX12_likes_26 rfl ?_
    refine fr_imul dX12_likes_27 rfl ?_
    refine fr_iadd dX12_likes_28 rfl ?_
    refine fr_iload_n (i := 2) (q := 2) rfl dX12_likes_29 rfl ?_
    refine fr_iadd dX12_likes_30 rfl ?_
    obtain ⟨hz1, h⟩ := h
    refine fr_lald dX12_likes_31 rfl k_o_likings hz1 ?_
    exact fr_lret rfl dX12_likes_32 h.1 h.2
  · have h := h.2 hc
    refine fr_aload_n (i := 0) (q := 0) rfl dX12_likes_4 rfl ?_
    refine fr_getR dX12_likes_5 rfl fl_X12_70 k_o r_o_likings ?_
    refine fr_bipush (v := 6) (by decide) dX12_likes_8 rfl ?_
    refine fr_iload_n (i := 2) (q := 2) rfl dX12_likes_10 rfl ?_
    refine fr_imul dX12_likes_11 rfl ?_
    refine fr_iload_n (i := 3) (q := 3) rfl dX12_likes_12 rfl ?_
    refine fr_iadd dX12_likes_13 rfl ?_
    obtain ⟨hz2, h⟩ := h
    refine fr_lald dX12_likes_14 rfl k_o_likings hz2 ?_
    refine fr_goto (n := 32) dX12_likes_15 (by decide) ?_
    exact fr_lret rfl dX12_likes_32 h.1 h.2
abbrev Lp_X12_bestOf_5 (g : GE) (d : Nat) (o : Nat) (u1 : Int32) (u2 : Int32) (u3 : Int32) (u4 : Int32) (M : Mem) (r : Option Value) (M' : Mem) : Prop := Fr g d mu_X12_bestOf 5 [(0, rf g o), (1, .int u1), (2, .int u2), (3, .int u3), (4, .int u4)] [] M r M'
theorem cp_X12_bestOf {g : GE} {Z : Zs} {I : Nat → Nat → Int32} {L : Nat → Nat → Int64} {r : Option Value} {M' : Mem} {o : Nat} {x1 : Int32} {x2 : Int32} (k_o : KM Z o 12) (h : (∀ y1 : Int32, y1 = ((-1)) → Lp_X12_bestOf_5 g 2 o x1 x2 y1 0 (Z, I, L) r M')) : Cl g 2 mu_X12_bestOf [rf g o, .int x1, .int x2] (Z, I, L) r M' := by
  refine cl_of (lv := [(0, rf g o), (1, .int x1), (2, .int x2)]) (by decide) (Nat.le_of_ble_eq_true rfl) rfl ?_
  refine fr_iconst (v := (-1)) (by decide) dX12_bestOf_0 rfl ?_
  refine fr_topi (fun y1 hy1 => ?_)
  have h := h y1 hy1
  refine fr_istore_n (i := 3) (lv' := [(3, .int y1), (0, rf g o), (1, .int x1), (2, .int x2)]) dX12_bestOf_1 rfl (by decide) rfl ?_
  refine fr_iconst (v := 0) (by decide) dX12_bestOf_2 rfl ?_
  refine fr_istore (lv' := [(4, .int 0), (3, .int y1), (0, rf g o), (1, .int x1), (2, .int x2)]) dX12_bestOf_3 rfl (by decide) rfl ?_
  exact fr_sub [2, 3, 4, 1, 0] rfl h
theorem wp_X12_bestOf_5 {g : GE} {Z : Zs} {I : Nat → Nat → Int32} {L : Nat → Nat → Int64} {r : Option Value} {M' : Mem} {o : Nat} {u1 : Int32} {u2 : Int32} {u3 : Int32} {u4 : Int32} {o_a : Nat} {o_asked : Nat} (k_o : KM Z o 12) (r_o_a : Z.2.1 o 0 = some o_a) (k_o_a : KM Z o_a 13) (r_o_asked : Z.2.1 o 40 = some o_asked) (k_o_asked : KM Z o_asked 13) (h : ((¬ u1 = 0 → (vp_in 5 (Z.2.2.1 o_a) ∧ (((I o_a (5 : Int32).toNatClampNeg) ≤ u4 → (r = some (.int u3) ∧ M' = (Z, I, L))) ∧ (¬ (I o_a (5 : Int32).toNatClampNeg) ≤ u4 → (vp_in ((6 * u2) + u4) (Z.2.2.1 o_asked) ∧ ((¬ (I o_asked ((6 * u2) + u4).toNatClampNeg) = 0 → (∀ y3 : Int32, y3 = (u4 + 1) → Lp_X12_bestOf_5 g 2 o u1 u2 u3 y3 (Z, I, L) r M')) ∧ ((I o_asked ((6 * u2) + u4).toNatClampNeg) = 0 → ((u3 < 0 → (∀ y4 : Int32, y4 = (u4 + 1) → Lp_X12_bestOf_5 g 2 o u1 u2 u4 y4 (Z, I, L) r M')) ∧ (¬ u3 < 0 → (∃ (v5 : Int64), Cl g 1 mu_X12_likes [rf g o, .int u1, .int u2, .int u4] (Z, I, L) (some (.long v5)) (Z, I, L) ∧ (∃ (v7 : Int64), Cl g 1 mu_X12_likes [rf g o, .int u1, .int u2, .int u3] (Z, I, L) (some (.long v7)) (Z, I, L) ∧ (((lg_cmp v5 v7) ≤ 0 → (∀ y9 : Int32, y9 = (u4 + 1) → Lp_X12_bestOf_5 g 2 o u1 u2 u3 y9 (Z, I, L) r M')) ∧ (¬ (lg_cmp v5 v7) ≤ 0 → (∀ y10 : Int32, y10 = (u4 + 1) → Lp_X12_bestOf_5 g 2 o u1 u2 u4 y10 (Z, I, L) r M')))))))))))))) ∧ (u1 = 0 → (vp_in 6 (Z.2.2.1 o_a) ∧ (((I o_a (6 : Int32).toNatClampNeg) ≤ u4 → (r = some (.int u3) ∧ M' = (Z, I, L))) ∧ (¬ (I o_a (6 : Int32).toNatClampNeg) ≤ u4 → (vp_in ((6 * u2) + u4) (Z.2.2.1 o_asked) ∧ ((¬ (I o_asked ((6 * u2) + u4).toNatClampNeg) = 0 → (∀ y13 : Int32, y13 = (u4 + 1) → Lp_X12_bestOf_5 g 2 o u1 u2 u3 y13 (Z, I, L) r M')) ∧ ((I o_asked ((6 * u2) + u4).toNatClampNeg) = 0 → ((u3 < 0 → (∀ y14 : Int32, y14 = (u4 + 1) → Lp_X12_bestOf_5 g 2 o u1 u2 u4 y14 (Z, I, L) r M')) ∧ (¬ u3 < 0 → (∃ (v15 : Int64), Cl g 1 mu_X12_likes [rf g o, .int u1, .int u2, .int u4] (Z, I, L) (some (.long v15)) (Z, I, L) ∧ (∃ (v17 : Int64), Cl g 1 mu_X12_likes [rf g o, .int u1, .int u2, .int u3] (Z, I, L) (some (.long v17)) (Z, I, L) ∧ (((lg_cmp v15 v17) ≤ 0 → (∀ y19 : Int32, y19 = (u4 + 1) → Lp_X12_bestOf_5 g 2 o u1 u2 u3 y19 (Z, I, L) r M')) ∧ (¬ (lg_cmp v15 v17) ≤ 0 → (∀ y20 : Int32, y20 = (u4 + 1) → Lp_X12_bestOf_5 g 2 o u1 u2 u4 y20 (Z, I, L) r M')))))))))))))))) : Lp_X12_bestOf_5 g 2 o u1 u2 u3 u4 (Z, I, L) r M' := by
  refine fr_iload (q := 4) rfl dX12_bestOf_5 rfl ?_
  refine fr_aload_n (i := 0) (q := 0) rfl dX12_bestOf_7 rfl ?_
  refine fr_getR dX12_bestOf_8 rfl fl_X12_7 k_o r_o_a ?_
  refine fr_iload_n (i := 1) (q := 1) rfl dX12_bestOf_11 rfl ?_
  refine fr_if_ne (tgt := 20) dX12_bestOf_12 (by decide) rfl (fun hc => ?_) (fun hc => ?_)
  · have h := h.1 hc
    refine fr_iconst (v := 5) (by decide) dX12_bestOf_20 rfl ?_
    obtain ⟨hz1, h⟩ := h
    refine fr_iald dX12_bestOf_21 rfl k_o_a hz1 ?_
    refine fr_icmp_ge (tgt := 72) dX12_bestOf_22 (by decide) rfl (fun hc => ?_) (fun hc => ?_)
    · have h := h.1 hc
      refine fr_iload_n (i := 3) (q := 3) rfl dX12_bestOf_72 rfl ?_
      exact fr_iret rfl dX12_bestOf_73 h.1 h.2
    · have h := h.2 hc
      refine fr_aload_n (i := 0) (q := 0) rfl dX12_bestOf_25 rfl ?_
      refine fr_getR dX12_bestOf_26 rfl fl_X12_76 k_o r_o_asked ?_
      refine fr_bipush (v := 6) (by decide) dX12_bestOf_29 rfl ?_
      refine fr_iload_n (i := 2) (q := 2) rfl dX12_bestOf_31 rfl ?_
      refine fr_imul dX12_bestOf_32 rfl ?_
      refine fr_iload (q := 4) rfl dX12_bestOf_33 rfl ?_
      refine fr_iadd dX12_bestOf_35 rfl ?_
      obtain ⟨hz2, h⟩ := h
      refine fr_iald dX12_bestOf_36 rfl k_o_asked hz2 ?_
      refine fr_if_ne (tgt := 66) dX12_bestOf_37 (by decide) rfl (fun hc => ?_) (fun hc => ?_)
      · have h := h.1 hc
        obtain ⟨y3, hy3⟩ : ∃ y : Int32, y = u4 + 1 := ⟨_, rfl⟩
        have h := h y3 hy3
        refine fr_iinc (q := 4) (v := y3) (lv' := [(4, .int y3), (0, rf g o), (1, .int u1), (2, .int u2), (3, .int u3)]) rfl (by rw [hy3]; rfl) dX12_bestOf_66 rfl (by decide) rfl ?_
        refine fr_goto (n := 5) dX12_bestOf_69 (by decide) ?_
        exact fr_sub [1, 2, 3, 4, 0] rfl h
      · have h := h.2 hc
        refine fr_iload_n (i := 3) (q := 3) rfl dX12_bestOf_40 rfl ?_
        refine fr_if_lt (tgt := 63) dX12_bestOf_41 (by decide) rfl (fun hc => ?_) (fun hc => ?_)
        · have h := h.1 hc
          refine fr_iload (q := 4) rfl dX12_bestOf_63 rfl ?_
          refine fr_istore_n (i := 3) (lv' := [(3, .int u4), (0, rf g o), (1, .int u1), (2, .int u2), (4, .int u4)]) dX12_bestOf_65 rfl (by decide) rfl ?_
          obtain ⟨y4, hy4⟩ : ∃ y : Int32, y = u4 + 1 := ⟨_, rfl⟩
          have h := h y4 hy4
          refine fr_iinc (q := 4) (v := y4) (lv' := [(4, .int y4), (3, .int u4), (0, rf g o), (1, .int u1), (2, .int u2)]) rfl (by rw [hy4]; rfl) dX12_bestOf_66 rfl (by decide) rfl ?_
          refine fr_goto (n := 5) dX12_bestOf_69 (by decide) ?_
          exact fr_sub [2, 3, 4, 1, 0] rfl h
        · have h := h.2 hc
          refine fr_aload_n (i := 0) (q := 0) rfl dX12_bestOf_44 rfl ?_
          refine fr_iload_n (i := 1) (q := 1) rfl dX12_bestOf_45 rfl ?_
          refine fr_iload_n (i := 2) (q := 2) rfl dX12_bestOf_46 rfl ?_
          refine fr_iload (q := 4) rfl dX12_bestOf_47 rfl ?_
          obtain ⟨v5, hc6, h⟩ := h
          refine fr_callV2 (ν := mu_X12_likes) (st2 := [.long v5]) (As := [.int u1, .int u2, .int u4]) (st := []) (v := (some (.long v5))) (M1 := (Z, I, L)) dX12_bestOf_49 rfl ml_X12_353 mo_X12_likes mi_X12_likes (ci := 12) rfl rfl k_o (Nat.le_of_ble_eq_true rfl) rfl rfl (Nat.le_of_ble_eq_true rfl) hc6 rfl ?_
          refine fr_aload_n (i := 0) (q := 0) rfl dX12_bestOf_52 rfl ?_
          refine fr_iload_n (i := 1) (q := 1) rfl dX12_bestOf_53 rfl ?_
          refine fr_iload_n (i := 2) (q := 2) rfl dX12_bestOf_54 rfl ?_
          refine fr_iload_n (i := 3) (q := 3) rfl dX12_bestOf_55 rfl ?_
          obtain ⟨v7, hc8, h⟩ := h
          refine fr_callV2 (ν := mu_X12_likes) (st2 := [.long v7, .long v5]) (As := [.int u1, .int u2, .int u3]) (st := [.long v5]) (v := (some (.long v7))) (M1 := (Z, I, L)) dX12_bestOf_56 rfl ml_X12_353 mo_X12_likes mi_X12_likes (ci := 12) rfl rfl k_o (Nat.le_of_ble_eq_true rfl) rfl rfl (Nat.le_of_ble_eq_true rfl) hc8 rfl ?_
          refine fr_lcmp dX12_bestOf_59 rfl ?_
          refine fr_if_le (tgt := 66) dX12_bestOf_60 (by decide) rfl (fun hc => ?_) (fun hc => ?_)
          · have h := h.1 hc
            obtain ⟨y9, hy9⟩ : ∃ y : Int32, y = u4 + 1 := ⟨_, rfl⟩
            have h := h y9 hy9
            refine fr_iinc (q := 4) (v := y9) (lv' := [(4, .int y9), (0, rf g o), (1, .int u1), (2, .int u2), (3, .int u3)]) rfl (by rw [hy9]; rfl) dX12_bestOf_66 rfl (by decide) rfl ?_
            refine fr_goto (n := 5) dX12_bestOf_69 (by decide) ?_
            exact fr_sub [1, 2, 3, 4, 0] rfl h
          · have h := h.2 hc
            refine fr_iload (q := 4) rfl dX12_bestOf_63 rfl ?_
            refine fr_istore_n (i := 3) (lv' := [(3, .int u4), (0, rf g o), (1, .int u1), (2, .int u2), (4, .int u4)]) dX12_bestOf_65 rfl (by decide) rfl ?_
            obtain ⟨y10, hy10⟩ : ∃ y : Int32, y = u4 + 1 := ⟨_, rfl⟩
            have h := h y10 hy10
            refine fr_iinc (q := 4) (v := y10) (lv' := [(4, .int y10), (3, .int u4), (0, rf g o), (1, .int u1), (2, .int u2)]) rfl (by rw [hy10]; rfl) dX12_bestOf_66 rfl (by decide) rfl ?_
            refine fr_goto (n := 5) dX12_bestOf_69 (by decide) ?_
            exact fr_sub [2, 3, 4, 1, 0] rfl h
  · have h := h.2 hc
    refine fr_bipush (v := 6) (by decide) dX12_bestOf_15 rfl ?_
    refine fr_goto (n := 21) dX12_bestOf_17 (by decide) ?_
    obtain ⟨hz11, h⟩ := h
    refine fr_iald dX12_bestOf_21 rfl k_o_a hz11 ?_
    refine fr_icmp_ge (tgt := 72) dX12_bestOf_22 (by decide) rfl (fun hc => ?_) (fun hc => ?_)
    · have h := h.1 hc
      refine fr_iload_n (i := 3) (q := 3) rfl dX12_bestOf_72 rfl ?_
      exact fr_iret rfl dX12_bestOf_73 h.1 h.2
    · have h := h.2 hc
      refine fr_aload_n (i := 0) (q := 0) rfl dX12_bestOf_25 rfl ?_
      refine fr_getR dX12_bestOf_26 rfl fl_X12_76 k_o r_o_asked ?_
      refine fr_bipush (v := 6) (by decide) dX12_bestOf_29 rfl ?_
      refine fr_iload_n (i := 2) (q := 2) rfl dX12_bestOf_31 rfl ?_
      refine fr_imul dX12_bestOf_32 rfl ?_
      refine fr_iload (q := 4) rfl dX12_bestOf_33 rfl ?_
      refine fr_iadd dX12_bestOf_35 rfl ?_
      obtain ⟨hz12, h⟩ := h
      refine fr_iald dX12_bestOf_36 rfl k_o_asked hz12 ?_
      refine fr_if_ne (tgt := 66) dX12_bestOf_37 (by decide) rfl (fun hc => ?_) (fun hc => ?_)
      · have h := h.1 hc
        obtain ⟨y13, hy13⟩ : ∃ y : Int32, y = u4 + 1 := ⟨_, rfl⟩
        have h := h y13 hy13
        refine fr_iinc (q := 4) (v := y13) (lv' := [(4, .int y13), (0, rf g o), (1, .int u1), (2, .int u2), (3, .int u3)]) rfl (by rw [hy13]; rfl) dX12_bestOf_66 rfl (by decide) rfl ?_
        refine fr_goto (n := 5) dX12_bestOf_69 (by decide) ?_
        exact fr_sub [1, 2, 3, 4, 0] rfl h
      · have h := h.2 hc
        refine fr_iload_n (i := 3) (q := 3) rfl dX12_bestOf_40 rfl ?_
        refine fr_if_lt (tgt := 63) dX12_bestOf_41 (by decide) rfl (fun hc => ?_) (fun hc => ?_)
        · have h := h.1 hc
          refine fr_iload (q := 4) rfl dX12_bestOf_63 rfl ?_
          refine fr_istore_n (i := 3) (lv' := [(3, .int u4), (0, rf g o), (1, .int u1), (2, .int u2), (4, .int u4)]) dX12_bestOf_65 rfl (by decide) rfl ?_
          obtain ⟨y14, hy14⟩ : ∃ y : Int32, y = u4 + 1 := ⟨_, rfl⟩
          have h := h y14 hy14
          refine fr_iinc (q := 4) (v := y14) (lv' := [(4, .int y14), (3, .int u4), (0, rf g o), (1, .int u1), (2, .int u2)]) rfl (by rw [hy14]; rfl) dX12_bestOf_66 rfl (by decide) rfl ?_
          refine fr_goto (n := 5) dX12_bestOf_69 (by decide) ?_
          exact fr_sub [2, 3, 4, 1, 0] rfl h
        · have h := h.2 hc
          refine fr_aload_n (i := 0) (q := 0) rfl dX12_bestOf_44 rfl ?_
          refine fr_iload_n (i := 1) (q := 1) rfl dX12_bestOf_45 rfl ?_
          refine fr_iload_n (i := 2) (q := 2) rfl dX12_bestOf_46 rfl ?_
          refine fr_iload (q := 4) rfl dX12_bestOf_47 rfl ?_
          obtain ⟨v15, hc16, h⟩ := h
          refine fr_callV2 (ν := mu_X12_likes) (st2 := [.long v15]) (As := [.int u1, .int u2, .int u4]) (st := []) (v := (some (.long v15))) (M1 := (Z, I, L)) dX12_bestOf_49 rfl ml_X12_353 mo_X12_likes mi_X12_likes (ci := 12) rfl rfl k_o (Nat.le_of_ble_eq_true rfl) rfl rfl (Nat.le_of_ble_eq_true rfl) hc16 rfl ?_
          refine fr_aload_n (i := 0) (q := 0) rfl dX12_bestOf_52 rfl ?_
          refine fr_iload_n (i := 1) (q := 1) rfl dX12_bestOf_53 rfl ?_
          refine fr_iload_n (i := 2) (q := 2) rfl dX12_bestOf_54 rfl ?_
          refine fr_iload_n (i := 3) (q := 3) rfl dX12_bestOf_55 rfl ?_
          obtain ⟨v17, hc18, h⟩ := h
          refine fr_callV2 (ν := mu_X12_likes) (st2 := [.long v17, .long v15]) (As := [.int u1, .int u2, .int u3]) (st := [.long v15]) (v := (some (.long v17))) (M1 := (Z, I, L)) dX12_bestOf_56 rfl ml_X12_353 mo_X12_likes mi_X12_likes (ci := 12) rfl rfl k_o (Nat.le_of_ble_eq_true rfl) rfl rfl (Nat.le_of_ble_eq_true rfl) hc18 rfl ?_
          refine fr_lcmp dX12_bestOf_59 rfl ?_
          refine fr_if_le (tgt := 66) dX12_bestOf_60 (by decide) rfl (fun hc => ?_) (fun hc => ?_)
          · have h := h.1 hc
            obtain ⟨y19, hy19⟩ : ∃ y : Int32, y = u4 + 1 := ⟨_, rfl⟩
            have h := h y19 hy19
            refine fr_iinc (q := 4) (v := y19) (lv' := [(4, .int y19), (0, rf g o), (1, .int u1), (2, .int u2), (3, .int u3)]) rfl (by rw [hy19]; rfl) dX12_bestOf_66 rfl (by decide) rfl ?_
            refine fr_goto (n := 5) dX12_bestOf_69 (by decide) ?_
            exact fr_sub [1, 2, 3, 4, 0] rfl h
          · have h := h.2 hc
            refine fr_iload (q := 4) rfl dX12_bestOf_63 rfl ?_
            refine fr_istore_n (i := 3) (lv' := [(3, .int u4), (0, rf g o), (1, .int u1), (2, .int u2), (4, .int u4)]) dX12_bestOf_65 rfl (by decide) rfl ?_
            obtain ⟨y20, hy20⟩ : ∃ y : Int32, y = u4 + 1 := ⟨_, rfl⟩
            have h := h y20 hy20
            refine fr_iinc (q := 4) (v := y20) (lv' := [(4, .int y20), (3, .int u4), (0, rf g o), (1, .int u1), (2, .int u2)]) rfl (by rw [hy20]; rfl) dX12_bestOf_66 rfl (by decide) rfl ?_
            refine fr_goto (n := 5) dX12_bestOf_69 (by decide) ?_
            exact fr_sub [2, 3, 4, 1, 0] rfl h
theorem cp_X12_isMore {g : GE} {Z : Zs} {I : Nat → Nat → Int32} {L : Nat → Nat → Int64} {r : Option Value} {M' : Mem} {o : Nat} {x1 : Int32} {x2 : Int32} {x3 : Int32} {o_has : Nat} (k_o : KM Z o 12) (r_o_has : Z.2.1 o 39 = some o_has) (k_o_has : KM Z o_has 13) (h : (vp_in (6 + x2) (Z.2.2.1 o_has) ∧ (∀ y2 : Int32, y2 = (I o_has (6 + x2).toNatClampNeg) → ((0 ≤ y2 → (∃ (v3 : Int64), Cl g 1 mu_X12_likes [rf g o, .int (1 - x1), .int x2, .int x3] (Z, I, L) (some (.long v3)) (Z, I, L) ∧ (∃ (v5 : Int64), Cl g 1 mu_X12_likes [rf g o, .int (1 - x1), .int x2, .int y2] (Z, I, L) (some (.long v5)) (Z, I, L) ∧ ((0 < (lg_cmp v3 v5) → (r = some (.int 1) ∧ M' = (Z, I, L))) ∧ (¬ 0 < (lg_cmp v3 v5) → ((¬ (lg_cmp v3 v5) = 0 → (r = some (.int 0) ∧ M' = (Z, I, L))) ∧ ((lg_cmp v3 v5) = 0 → ((y2 ≤ x3 → (r = some (.int 0) ∧ M' = (Z, I, L))) ∧ (¬ y2 ≤ x3 → (r = some (.int 1) ∧ M' = (Z, I, L))))))))))) ∧ (¬ 0 ≤ y2 → (r = some (.int 1) ∧ M' = (Z, I, L))))))) : Cl g 2 mu_X12_isMore [rf g o, .int x1, .int x2, .int x3] (Z, I, L) r M' := by
  refine cl_of (lv := [(0, rf g o), (1, .int x1), (2, .int x2), (3, .int x3)]) (by decide) (Nat.le_of_ble_eq_true rfl) rfl ?_
  refine fr_aload_n (i := 0) (q := 0) rfl dX12_isMore_0 rfl ?_
  refine fr_getR dX12_isMore_1 rfl fl_X12_73 k_o r_o_has ?_
  refine fr_bipush (v := 6) (by decide) dX12_isMore_4 rfl ?_
  refine fr_iload_n (i := 2) (q := 2) rfl dX12_isMore_6 rfl ?_
  refine fr_iadd dX12_isMore_7 rfl ?_
  obtain ⟨hz1, h⟩ := h
  refine fr_iald dX12_isMore_8 rfl k_o_has hz1 ?_
  refine fr_topi (fun y2 hy2 => ?_)
  have h := h y2 hy2
  refine fr_istore (lv' := [(4, .int y2), (0, rf g o), (1, .int x1), (2, .int x2), (3, .int x3)]) dX12_isMore_9 rfl (by decide) rfl ?_
  refine fr_iload (q := 0) rfl dX12_isMore_11 rfl ?_
  refine fr_if_ge (tgt := 18) dX12_isMore_13 (by decide) rfl (fun hc => ?_) (fun hc => ?_)
  · have h := h.1 hc
    refine fr_aload_n (i := 0) (q := 1) rfl dX12_isMore_18 rfl ?_
    refine fr_iconst (v := 1) (by decide) dX12_isMore_19 rfl ?_
    refine fr_iload_n (i := 1) (q := 2) rfl dX12_isMore_20 rfl ?_
    refine fr_isub dX12_isMore_21 rfl ?_
    refine fr_iload_n (i := 2) (q := 3) rfl dX12_isMore_22 rfl ?_
    refine fr_iload_n (i := 3) (q := 4) rfl dX12_isMore_23 rfl ?_
    obtain ⟨v3, hc4, h⟩ := h
    refine fr_callV2 (ν := mu_X12_likes) (st2 := [.long v3]) (As := [.int (1 - x1), .int x2, .int x3]) (st := []) (v := (some (.long v3))) (M1 := (Z, I, L)) dX12_isMore_24 rfl ml_X12_353 mo_X12_likes mi_X12_likes (ci := 12) rfl rfl k_o (Nat.le_of_ble_eq_true rfl) rfl rfl (Nat.le_of_ble_eq_true rfl) hc4 rfl ?_
    refine fr_lstore (lv' := [(5, .long v3), (4, .int y2), (0, rf g o), (1, .int x1), (2, .int x2), (3, .int x3)]) dX12_isMore_27 rfl (by decide) rfl ?_
    refine fr_aload_n (i := 0) (q := 2) rfl dX12_isMore_29 rfl ?_
    refine fr_iconst (v := 1) (by decide) dX12_isMore_30 rfl ?_
    refine fr_iload_n (i := 1) (q := 3) rfl dX12_isMore_31 rfl ?_
    refine fr_isub dX12_isMore_32 rfl ?_
    refine fr_iload_n (i := 2) (q := 4) rfl dX12_isMore_33 rfl ?_
    refine fr_iload (q := 1) rfl dX12_isMore_34 rfl ?_
    obtain ⟨v5, hc6, h⟩ := h
    refine fr_callV2 (ν := mu_X12_likes) (st2 := [.long v5]) (As := [.int (1 - x1), .int x2, .int y2]) (st := []) (v := (some (.long v5))) (M1 := (Z, I, L)) dX12_isMore_36 rfl ml_X12_353 mo_X12_likes mi_X12_likes (ci := 12) rfl rfl k_o (Nat.le_of_ble_eq_true rfl) rfl rfl (Nat.le_of_ble_eq_true rfl) hc6 rfl ?_
    refine fr_lstore (lv' := [(7, .long v5), (5, .long v3), (4, .int y2), (0, rf g o), (1, .int x1), (2, .int x2), (3, .int x3)]) dX12_isMore_39 rfl (by decide) rfl ?_
    refine fr_lload (q := 1) rfl dX12_isMore_41 rfl ?_
    refine fr_lload (q := 0) rfl dX12_isMore_43 rfl ?_
    refine fr_lcmp dX12_isMore_45 rfl ?_
    refine fr_if_gt (tgt := 63) dX12_isMore_46 (by decide) rfl (fun hc => ?_) (fun hc => ?_)
    · have h := h.1 hc
      refine fr_iconst (v := 1) (by decide) dX12_isMore_63 rfl ?_
      refine fr_goto (n := 68) dX12_isMore_64 (by decide) ?_
      exact fr_zret (by decide) rfl dX12_isMore_68 h.1 h.2
    · have h := h.2 hc
      refine fr_lload (q := 1) rfl dX12_isMore_49 rfl ?_
      refine fr_lload (q := 0) rfl dX12_isMore_51 rfl ?_
      refine fr_lcmp dX12_isMore_53 rfl ?_
      refine fr_if_ne (tgt := 67) dX12_isMore_54 (by decide) rfl (fun hc => ?_) (fun hc => ?_)
      · have h := h.1 hc
        refine fr_iconst (v := 0) (by decide) dX12_isMore_67 rfl ?_
        exact fr_zret (by decide) rfl dX12_isMore_68 h.1 h.2
      · have h := h.2 hc
        refine fr_iload_n (i := 3) (q := 6) rfl dX12_isMore_57 rfl ?_
        refine fr_iload (q := 2) rfl dX12_isMore_58 rfl ?_
        refine fr_icmp_ge (tgt := 67) dX12_isMore_60 (by decide) rfl (fun hc => ?_) (fun hc => ?_)
        · have h := h.1 hc
          refine fr_iconst (v := 0) (by decide) dX12_isMore_67 rfl ?_
          exact fr_zret (by decide) rfl dX12_isMore_68 h.1 h.2
        · have h := h.2 hc
          refine fr_iconst (v := 1) (by decide) dX12_isMore_63 rfl ?_
          refine fr_goto (n := 68) dX12_isMore_64 (by decide) ?_
          exact fr_zret (by decide) rfl dX12_isMore_68 h.1 h.2
  · have h := h.2 hc
    refine fr_iconst (v := 1) (by decide) dX12_isMore_16 rfl ?_
    exact fr_zret (by decide) rfl dX12_isMore_17 h.1 h.2
abbrev Lp_X12_wed_43 (g : GE) (d : Nat) (o : Nat) (u2 : Int32) (u3 : Int32) (u4 : Int32) (M : Mem) (r : Option Value) (M' : Mem) : Prop := Fr g d mu_X12_wed 43 [(0, rf g o), (2, .int u2), (3, .int u3), (4, .int u4)] [] M r M'
theorem cp_X12_wed {g : GE} {Z : Zs} {I : Nat → Nat → Int32} {L : Nat → Nat → Int64} {r : Option Value} {M' : Mem} {o : Nat} {x1 : Int32} {x2 : Int32} {x3 : Int32} {o_a : Nat} (k_o : KM Z o 12) (r_o_a : Z.2.1 o 0 = some o_a) (k_o_a : KM Z o_a 13) (h : (∃ (v1 : Int32), Cl g 2 mu_X12_isText [rf g o, .int x1] (Z, I, L) (some (.int v1)) (Z, I, L) ∧ ((v1 = 0 → (r = some (.int ((-1))) ∧ M' = (Z, I, L))) ∧ (¬ v1 = 0 → (∃ (v3 : Int32), Cl g 1 mu_X12_isIn [.int x2, .int 0, .int 1] (Z, I, L) (some (.int v3)) (Z, I, L) ∧ ((v3 = 0 → (r = some (.int ((-1))) ∧ M' = (Z, I, L))) ∧ (¬ v3 = 0 → (vp_in 5 (Z.2.2.1 o_a) ∧ (∃ (v6 : Int32), Cl g 1 mu_X12_isIn [.int x3, .int 0, .int ((I o_a (5 : Int32).toNatClampNeg) - 1)] (Z, I, L) (some (.int v6)) (Z, I, L) ∧ ((¬ v6 = 0 → (∃ (I8 : Nat → Nat → Int32) (L9 : Nat → Nat → Int64), Cl g 4 mu_X12_findLikings [rf g o, .int x1] (Z, I, L) none (Z, I8, L9) ∧ Lp_X12_wed_43 g 5 o x2 x3 0 (Z, I8, L9) r M')) ∧ (v6 = 0 → (r = some (.int ((-1))) ∧ M' = (Z, I, L))))))))))))) : Cl g 5 mu_X12_wed [rf g o, .int x1, .int x2, .int x3] (Z, I, L) r M' := by
  refine cl_of (lv := [(0, rf g o), (1, .int x1), (2, .int x2), (3, .int x3)]) (by decide) (Nat.le_of_ble_eq_true rfl) rfl ?_
  refine fr_aload_n (i := 0) (q := 0) rfl dX12_wed_0 rfl ?_
  refine fr_iload_n (i := 1) (q := 1) rfl dX12_wed_1 rfl ?_
  obtain ⟨v1, hc2, h⟩ := h
  refine fr_callV2 (ν := mu_X12_isText) (st2 := [.int v1]) (As := [.int x1]) (st := []) (v := (some (.int v1))) (M1 := (Z, I, L)) dX12_wed_2 rfl ml_X12_113 mo_X12_isText mi_X12_isText (ci := 12) rfl rfl k_o (Nat.le_of_ble_eq_true rfl) rfl rfl (Nat.le_of_ble_eq_true rfl) hc2 rfl ?_
  refine fr_if_eq (tgt := 33) dX12_wed_5 (by decide) rfl (fun hc => ?_) (fun hc => ?_)
  · have h := h.1 hc
    refine fr_iconst (v := (-1)) (by decide) dX12_wed_33 rfl ?_
    exact fr_iret rfl dX12_wed_34 h.1 h.2
  · have h := h.2 hc
    refine fr_iload_n (i := 2) (q := 2) rfl dX12_wed_8 rfl ?_
    refine fr_iconst (v := 0) (by decide) dX12_wed_9 rfl ?_
    refine fr_iconst (v := 1) (by decide) dX12_wed_10 rfl ?_
    obtain ⟨v3, hc4, h⟩ := h
    refine fr_callS2 (ν := mu_X12_isIn) (st2 := [.int v3]) (As := [.int x2, .int 0, .int 1]) (st := []) (v := (some (.int v3))) (M1 := (Z, I, L)) dX12_wed_11 rfl ml_X12_95 mo_X12_isIn ms_X12_isIn (Nat.le_of_ble_eq_true rfl) rfl rfl (Nat.le_of_ble_eq_true rfl) hc4 rfl ?_
    refine fr_if_eq (tgt := 33) dX12_wed_14 (by decide) rfl (fun hc => ?_) (fun hc => ?_)
    · have h := h.1 hc
      refine fr_iconst (v := (-1)) (by decide) dX12_wed_33 rfl ?_
      exact fr_iret rfl dX12_wed_34 h.1 h.2
    · have h := h.2 hc
      refine fr_iload_n (i := 3) (q := 3) rfl dX12_wed_17 rfl ?_
      refine fr_iconst (v := 0) (by decide) dX12_wed_18 rfl ?_
      refine fr_aload_n (i := 0) (q := 0) rfl dX12_wed_19 rfl ?_
      refine fr_getR dX12_wed_20 rfl fl_X12_7 k_o r_o_a ?_
      refine fr_iconst (v := 5) (by decide) dX12_wed_23 rfl ?_
      obtain ⟨hz5, h⟩ := h
      refine fr_iald dX12_wed_24 rfl k_o_a hz5 ?_
      refine fr_iconst (v := 1) (by decide) dX12_wed_25 rfl ?_
      refine fr_isub dX12_wed_26 rfl ?_
      obtain ⟨v6, hc7, h⟩ := h
      refine fr_callS2 (ν := mu_X12_isIn) (st2 := [.int v6]) (As := [.int x3, .int 0, .int ((I o_a (5 : Int32).toNatClampNeg) - 1)]) (st := []) (v := (some (.int v6))) (M1 := (Z, I, L)) dX12_wed_27 rfl ml_X12_95 mo_X12_isIn ms_X12_isIn (Nat.le_of_ble_eq_true rfl) rfl rfl (Nat.le_of_ble_eq_true rfl) hc7 rfl ?_
      refine fr_if_ne (tgt := 35) dX12_wed_30 (by decide) rfl (fun hc => ?_) (fun hc => ?_)
      · have h := h.1 hc
        refine fr_aload_n (i := 0) (q := 0) rfl dX12_wed_35 rfl ?_
        refine fr_iload_n (i := 1) (q := 1) rfl dX12_wed_36 rfl ?_
        obtain ⟨I8, L9, hc10, h⟩ := h
        refine fr_callV2 (ν := mu_X12_findLikings) (st2 := []) (As := [.int x1]) (st := []) (v := none) (M1 := (Z, I8, L9)) dX12_wed_37 rfl ml_X12_356 mo_X12_findLikings mi_X12_findLikings (ci := 12) rfl rfl k_o (Nat.le_of_ble_eq_true rfl) rfl rfl (Nat.le_of_ble_eq_true rfl) hc10 rfl ?_
        refine fr_iconst (v := 0) (by decide) dX12_wed_40 rfl ?_
        refine fr_istore (lv' := [(4, .int 0), (0, rf g o), (1, .int x1), (2, .int x2), (3, .int x3)]) dX12_wed_41 rfl (by decide) rfl ?_
        exact fr_sub [1, 3, 4, 0] rfl h
      · have h := h.2 hc
        refine fr_iconst (v := (-1)) (by decide) dX12_wed_33 rfl ?_
        exact fr_iret rfl dX12_wed_34 h.1 h.2
abbrev Lp_X12_wed_67 (g : GE) (d : Nat) (o : Nat) (u2 : Int32) (u3 : Int32) (u4 : Int32) (M : Mem) (r : Option Value) (M' : Mem) : Prop := Fr g d mu_X12_wed 67 [(0, rf g o), (2, .int u2), (3, .int u3), (4, .int u4)] [] M r M'
theorem wp_X12_wed_43 {g : GE} {Z : Zs} {I : Nat → Nat → Int32} {L : Nat → Nat → Int64} {r : Option Value} {M' : Mem} {o : Nat} {u2 : Int32} {u3 : Int32} {u4 : Int32} {o_has : Nat} (k_o : KM Z o 12) (r_o_has : Z.2.1 o 39 = some o_has) (k_o_has : KM Z o_has 13) (h : ((12 ≤ u4 → Lp_X12_wed_67 g 5 o u2 u3 0 (Z, I, L) r M') ∧ (¬ 12 ≤ u4 → (vp_in u4 (Z.2.2.1 o_has) ∧ (∀ I2 : Nat → Nat → Int32, I2 = rw1 I o_has (upd (I o_has) u4.toNatClampNeg ((-1))) → (∀ y3 : Int32, y3 = (u4 + 1) → Lp_X12_wed_43 g 5 o u2 u3 y3 (Z, I2, L) r M')))))) : Lp_X12_wed_43 g 5 o u2 u3 u4 (Z, I, L) r M' := by
  refine fr_iload (q := 3) rfl dX12_wed_43 rfl ?_
  refine fr_bipush (v := 12) (by decide) dX12_wed_45 rfl ?_
  refine fr_icmp_ge (tgt := 64) dX12_wed_47 (by decide) rfl (fun hc => ?_) (fun hc => ?_)
  · have h := h.1 hc
    refine fr_iconst (v := 0) (by decide) dX12_wed_64 rfl ?_
    refine fr_istore (lv' := [(4, .int 0), (0, rf g o), (2, .int u2), (3, .int u3)]) dX12_wed_65 rfl (by decide) rfl ?_
    exact fr_sub [1, 2, 3, 0] rfl h
  · have h := h.2 hc
    refine fr_aload_n (i := 0) (q := 0) rfl dX12_wed_50 rfl ?_
    refine fr_getR dX12_wed_51 rfl fl_X12_73 k_o r_o_has ?_
    refine fr_iload (q := 3) rfl dX12_wed_54 rfl ?_
    refine fr_iconst (v := (-1)) (by decide) dX12_wed_56 rfl ?_
    obtain ⟨hz1, h⟩ := h
    refine fr_iast dX12_wed_57 rfl k_o_has hz1 ?_
    refine fr_memI (fun I2 hI2 => ?_)
    have h := h I2 hI2
    obtain ⟨y3, hy3⟩ : ∃ y : Int32, y = u4 + 1 := ⟨_, rfl⟩
    have h := h y3 hy3
    refine fr_iinc (q := 3) (v := y3) (lv' := [(4, .int y3), (0, rf g o), (2, .int u2), (3, .int u3)]) rfl (by rw [hy3]; rfl) dX12_wed_58 rfl (by decide) rfl ?_
    refine fr_goto (n := 43) dX12_wed_61 (by decide) ?_
    exact fr_sub [1, 2, 3, 0] rfl h
abbrev Lp_X12_wed_108 (g : GE) (d : Nat) (o : Nat) (u2 : Int32) (u3 : Int32) (u4 : Int32) (u5 : Int32) (M : Mem) (r : Option Value) (M' : Mem) : Prop := Fr g d mu_X12_wed 108 [(0, rf g o), (2, .int u2), (3, .int u3), (4, .int u4), (5, .int u5)] [] M r M'
theorem wp_X12_wed_67 {g : GE} {Z : Zs} {I : Nat → Nat → Int32} {L : Nat → Nat → Int64} {r : Option Value} {M' : Mem} {o : Nat} {u2 : Int32} {u3 : Int32} {u4 : Int32} {o_a : Nat} {o_asked : Nat} (k_o : KM Z o 12) (r_o_a : Z.2.1 o 0 = some o_a) (k_o_a : KM Z o_a 13) (r_o_asked : Z.2.1 o 40 = some o_asked) (k_o_asked : KM Z o_asked 13) (h : ((72 ≤ u4 → ((¬ u2 = 0 → (vp_in 6 (Z.2.2.1 o_a) ∧ (∀ y2 : Int32, y2 = (I o_a (6 : Int32).toNatClampNeg) → Lp_X12_wed_108 g 5 o u2 u3 y2 0 (Z, I, L) r M'))) ∧ (u2 = 0 → (vp_in 5 (Z.2.2.1 o_a) ∧ (∀ y4 : Int32, y4 = (I o_a (5 : Int32).toNatClampNeg) → Lp_X12_wed_108 g 5 o u2 u3 y4 0 (Z, I, L) r M'))))) ∧ (¬ 72 ≤ u4 → (vp_in u4 (Z.2.2.1 o_asked) ∧ (∀ I6 : Nat → Nat → Int32, I6 = rw1 I o_asked (upd (I o_asked) u4.toNatClampNeg 0) → (∀ y7 : Int32, y7 = (u4 + 1) → Lp_X12_wed_67 g 5 o u2 u3 y7 (Z, I6, L) r M')))))) : Lp_X12_wed_67 g 5 o u2 u3 u4 (Z, I, L) r M' := by
  refine fr_iload (q := 3) rfl dX12_wed_67 rfl ?_
  refine fr_bipush (v := 72) (by decide) dX12_wed_69 rfl ?_
  refine fr_icmp_ge (tgt := 88) dX12_wed_71 (by decide) rfl (fun hc => ?_) (fun hc => ?_)
  · have h := h.1 hc
    refine fr_aload_n (i := 0) (q := 0) rfl dX12_wed_88 rfl ?_
    refine fr_getR dX12_wed_89 rfl fl_X12_7 k_o r_o_a ?_
    refine fr_iload_n (i := 2) (q := 1) rfl dX12_wed_92 rfl ?_
    refine fr_if_ne (tgt := 100) dX12_wed_93 (by decide) rfl (fun hc => ?_) (fun hc => ?_)
    · have h := h.1 hc
      refine fr_bipush (v := 6) (by decide) dX12_wed_100 rfl ?_
      obtain ⟨hz1, h⟩ := h
      refine fr_iald dX12_wed_102 rfl k_o_a hz1 ?_
      refine fr_topi (fun y2 hy2 => ?_)
      have h := h y2 hy2
      refine fr_istore (lv' := [(4, .int y2), (0, rf g o), (2, .int u2), (3, .int u3)]) dX12_wed_103 rfl (by decide) rfl ?_
      refine fr_iconst (v := 0) (by decide) dX12_wed_105 rfl ?_
      refine fr_istore (lv' := [(5, .int 0), (4, .int y2), (0, rf g o), (2, .int u2), (3, .int u3)]) dX12_wed_106 rfl (by decide) rfl ?_
      exact fr_sub [2, 3, 4, 1, 0] rfl h
    · have h := h.2 hc
      refine fr_iconst (v := 5) (by decide) dX12_wed_96 rfl ?_
      refine fr_goto (n := 102) dX12_wed_97 (by decide) ?_
      obtain ⟨hz3, h⟩ := h
      refine fr_iald dX12_wed_102 rfl k_o_a hz3 ?_
      refine fr_topi (fun y4 hy4 => ?_)
      have h := h y4 hy4
      refine fr_istore (lv' := [(4, .int y4), (0, rf g o), (2, .int u2), (3, .int u3)]) dX12_wed_103 rfl (by decide) rfl ?_
      refine fr_iconst (v := 0) (by decide) dX12_wed_105 rfl ?_
      refine fr_istore (lv' := [(5, .int 0), (4, .int y4), (0, rf g o), (2, .int u2), (3, .int u3)]) dX12_wed_106 rfl (by decide) rfl ?_
      exact fr_sub [2, 3, 4, 1, 0] rfl h
  · have h := h.2 hc
    refine fr_aload_n (i := 0) (q := 0) rfl dX12_wed_74 rfl ?_
    refine fr_getR dX12_wed_75 rfl fl_X12_76 k_o r_o_asked ?_
    refine fr_iload (q := 3) rfl dX12_wed_78 rfl ?_
    refine fr_iconst (v := 0) (by decide) dX12_wed_80 rfl ?_
    obtain ⟨hz5, h⟩ := h
    refine fr_iast dX12_wed_81 rfl k_o_asked hz5 ?_
    refine fr_memI (fun I6 hI6 => ?_)
    have h := h I6 hI6
    obtain ⟨y7, hy7⟩ : ∃ y : Int32, y = u4 + 1 := ⟨_, rfl⟩
    have h := h y7 hy7
    refine fr_iinc (q := 3) (v := y7) (lv' := [(4, .int y7), (0, rf g o), (2, .int u2), (3, .int u3)]) rfl (by rw [hy7]; rfl) dX12_wed_82 rfl (by decide) rfl ?_
    refine fr_goto (n := 67) dX12_wed_85 (by decide) ?_
    exact fr_sub [1, 2, 3, 0] rfl h
theorem wp_X12_wed_108 {g : GE} {Z : Zs} {I : Nat → Nat → Int32} {L : Nat → Nat → Int64} {r : Option Value} {M' : Mem} {o : Nat} {u2 : Int32} {u3 : Int32} {u4 : Int32} {u5 : Int32} {o_has : Nat} {o_asked : Nat} (k_o : KM Z o 12) (r_o_has : Z.2.1 o 39 = some o_has) (k_o_has : KM Z o_has 13) (r_o_asked : Z.2.1 o 40 = some o_asked) (k_o_asked : KM Z o_asked 13) (h : ((u4 ≤ u5 → ((¬ u2 = 0 → (vp_in (6 + u3) (Z.2.2.1 o_has) ∧ (r = some (.int (I o_has (6 + u3).toNatClampNeg)) ∧ M' = (Z, I, L)))) ∧ (u2 = 0 → (vp_in u3 (Z.2.2.1 o_has) ∧ (r = some (.int (I o_has u3.toNatClampNeg)) ∧ M' = (Z, I, L)))))) ∧ (¬ u4 ≤ u5 → (vp_in u5 (Z.2.2.1 o_has) ∧ (((I o_has u5.toNatClampNeg) < 0 → (∃ (v4 : Int32), Cl g 2 mu_X12_bestOf [rf g o, .int u2, .int u5] (Z, I, L) (some (.int v4)) (Z, I, L) ∧ ((0 ≤ v4 → (vp_in ((6 * u5) + v4) (Z.2.2.1 o_asked) ∧ (∀ I7 : Nat → Nat → Int32, I7 = rw1 I o_asked (upd (I o_asked) ((6 * u5) + v4).toNatClampNeg 1) → (∃ (v8 : Int32), Cl g 2 mu_X12_isMore [rf g o, .int u2, .int v4, .int u5] (Z, I7, L) (some (.int v8)) (Z, I7, L) ∧ ((v8 = 0 → Lp_X12_wed_108 g 5 o u2 u3 u4 u5 (Z, I7, L) r M') ∧ (¬ v8 = 0 → (vp_in (6 + v4) (Z.2.2.1 o_has) ∧ (((I7 o_has (6 + v4).toNatClampNeg) < 0 → (vp_in (6 + v4) (Z.2.2.1 o_has) ∧ (∀ I12 : Nat → Nat → Int32, I12 = rw1 I7 o_has (upd (I7 o_has) (6 + v4).toNatClampNeg u5) → (vp_in u5 (Z.2.2.1 o_has) ∧ (∀ I14 : Nat → Nat → Int32, I14 = rw1 I12 o_has (upd (I12 o_has) u5.toNatClampNeg v4) → Lp_X12_wed_108 g 5 o u2 u3 u4 0 (Z, I14, L) r M'))))) ∧ (¬ (I7 o_has (6 + v4).toNatClampNeg) < 0 → (vp_in (6 + v4) (Z.2.2.1 o_has) ∧ (vp_in (I7 o_has (6 + v4).toNatClampNeg) (Z.2.2.1 o_has) ∧ (∀ I17 : Nat → Nat → Int32, I17 = rw1 I7 o_has (upd (I7 o_has) (I7 o_has (6 + v4).toNatClampNeg).toNatClampNeg ((-1))) → (vp_in (6 + v4) (Z.2.2.1 o_has) ∧ (∀ I19 : Nat → Nat → Int32, I19 = rw1 I17 o_has (upd (I17 o_has) (6 + v4).toNatClampNeg u5) → (vp_in u5 (Z.2.2.1 o_has) ∧ (∀ I21 : Nat → Nat → Int32, I21 = rw1 I19 o_has (upd (I19 o_has) u5.toNatClampNeg v4) → Lp_X12_wed_108 g 5 o u2 u3 u4 0 (Z, I21, L) r M')))))))))))))))) ∧ (¬ 0 ≤ v4 → (∀ y22 : Int32, y22 = (u5 + 1) → Lp_X12_wed_108 g 5 o u2 u3 u4 y22 (Z, I, L) r M'))))) ∧ (¬ (I o_has u5.toNatClampNeg) < 0 → (∀ y23 : Int32, y23 = ((-1)) → ((0 ≤ y23 → (vp_in ((6 * u5) + y23) (Z.2.2.1 o_asked) ∧ (∀ I25 : Nat → Nat → Int32, I25 = rw1 I o_asked (upd (I o_asked) ((6 * u5) + y23).toNatClampNeg 1) → (∃ (v26 : Int32), Cl g 2 mu_X12_isMore [rf g o, .int u2, .int y23, .int u5] (Z, I25, L) (some (.int v26)) (Z, I25, L) ∧ ((v26 = 0 → Lp_X12_wed_108 g 5 o u2 u3 u4 u5 (Z, I25, L) r M') ∧ (¬ v26 = 0 → (vp_in (6 + y23) (Z.2.2.1 o_has) ∧ (((I25 o_has (6 + y23).toNatClampNeg) < 0 → (vp_in (6 + y23) (Z.2.2.1 o_has) ∧ (∀ I30 : Nat → Nat → Int32, I30 = rw1 I25 o_has (upd (I25 o_has) (6 + y23).toNatClampNeg u5) → (vp_in u5 (Z.2.2.1 o_has) ∧ (∀ I32 : Nat → Nat → Int32, I32 = rw1 I30 o_has (upd (I30 o_has) u5.toNatClampNeg y23) → Lp_X12_wed_108 g 5 o u2 u3 u4 0 (Z, I32, L) r M'))))) ∧ (¬ (I25 o_has (6 + y23).toNatClampNeg) < 0 → (vp_in (6 + y23) (Z.2.2.1 o_has) ∧ (vp_in (I25 o_has (6 + y23).toNatClampNeg) (Z.2.2.1 o_has) ∧ (∀ I35 : Nat → Nat → Int32, I35 = rw1 I25 o_has (upd (I25 o_has) (I25 o_has (6 + y23).toNatClampNeg).toNatClampNeg ((-1))) → (vp_in (6 + y23) (Z.2.2.1 o_has) ∧ (∀ I37 : Nat → Nat → Int32, I37 = rw1 I35 o_has (upd (I35 o_has) (6 + y23).toNatClampNeg u5) → (vp_in u5 (Z.2.2.1 o_has) ∧ (∀ I39 : Nat → Nat → Int32, I39 = rw1 I37 o_has (upd (I37 o_has) u5.toNatClampNeg y23) → Lp_X12_wed_108 g 5 o u2 u3 u4 0 (Z, I39, L) r M')))))))))))))))) ∧ (¬ 0 ≤ y23 → (∀ y40 : Int32, y40 = (u5 + 1) → Lp_X12_wed_108 g 5 o u2 u3 u4 y40 (Z, I, L) r M')))))))))) : Lp_X12_wed_108 g 5 o u2 u3 u4 u5 (Z, I, L) r M' := by
  refine fr_iload (q := 4) rfl dX12_wed_108 rfl ?_
  refine fr_iload (q := 3) rfl dX12_wed_110 rfl ?_
  refine fr_icmp_ge (tgt := 231) dX12_wed_112 (by decide) rfl (fun hc => ?_) (fun hc => ?_)
  · have h := h.1 hc
    refine fr_iload_n (i := 2) (q := 1) rfl dX12_wed_231 rfl ?_
    refine fr_if_ne (tgt := 244) dX12_wed_232 (by decide) rfl (fun hc => ?_) (fun hc => ?_)
    · have h := h.1 hc
      refine fr_aload_n (i := 0) (q := 0) rfl dX12_wed_244 rfl ?_
      refine fr_getR dX12_wed_245 rfl fl_X12_73 k_o r_o_has ?_
      refine fr_bipush (v := 6) (by decide) dX12_wed_248 rfl ?_
      refine fr_iload_n (i := 3) (q := 2) rfl dX12_wed_250 rfl ?_
      refine fr_iadd dX12_wed_251 rfl ?_
      obtain ⟨hz1, h⟩ := h
      refine fr_iald dX12_wed_252 rfl k_o_has hz1 ?_
      exact fr_iret rfl dX12_wed_253 h.1 h.2
    · have h := h.2 hc
      refine fr_aload_n (i := 0) (q := 0) rfl dX12_wed_235 rfl ?_
      refine fr_getR dX12_wed_236 rfl fl_X12_73 k_o r_o_has ?_
      refine fr_iload_n (i := 3) (q := 2) rfl dX12_wed_239 rfl ?_
      obtain ⟨hz2, h⟩ := h
      refine fr_iald dX12_wed_240 rfl k_o_has hz2 ?_
      refine fr_goto (n := 253) dX12_wed_241 (by decide) ?_
      exact fr_iret rfl dX12_wed_253 h.1 h.2
  · have h := h.2 hc
    refine fr_aload_n (i := 0) (q := 0) rfl dX12_wed_115 rfl ?_
    refine fr_getR dX12_wed_116 rfl fl_X12_73 k_o r_o_has ?_
    refine fr_iload (q := 4) rfl dX12_wed_119 rfl ?_
    obtain ⟨hz3, h⟩ := h
    refine fr_iald dX12_wed_121 rfl k_o_has hz3 ?_
    refine fr_if_lt (tgt := 129) dX12_wed_122 (by decide) rfl (fun hc => ?_) (fun hc => ?_)
    · have h := h.1 hc
      refine fr_aload_n (i := 0) (q := 0) rfl dX12_wed_129 rfl ?_
      refine fr_iload_n (i := 2) (q := 1) rfl dX12_wed_130 rfl ?_
      refine fr_iload (q := 4) rfl dX12_wed_131 rfl ?_
      obtain ⟨v4, hc5, h⟩ := h
      refine fr_callV2 (ν := mu_X12_bestOf) (st2 := [.int v4]) (As := [.int u2, .int u5]) (st := []) (v := (some (.int v4))) (M1 := (Z, I, L)) dX12_wed_133 rfl ml_X12_359 mo_X12_bestOf mi_X12_bestOf (ci := 12) rfl rfl k_o (Nat.le_of_ble_eq_true rfl) rfl rfl (Nat.le_of_ble_eq_true rfl) hc5 rfl ?_
      refine fr_istore (lv' := [(6, .int v4), (0, rf g o), (2, .int u2), (3, .int u3), (4, .int u4), (5, .int u5)]) dX12_wed_136 rfl (by decide) rfl ?_
      refine fr_iload (q := 0) rfl dX12_wed_138 rfl ?_
      refine fr_if_ge (tgt := 149) dX12_wed_140 (by decide) rfl (fun hc => ?_) (fun hc => ?_)
      · have h := h.1 hc
        refine fr_aload_n (i := 0) (q := 1) rfl dX12_wed_149 rfl ?_
        refine fr_getR dX12_wed_150 rfl fl_X12_76 k_o r_o_asked ?_
        refine fr_bipush (v := 6) (by decide) dX12_wed_153 rfl ?_
        refine fr_iload (q := 5) rfl dX12_wed_155 rfl ?_
        refine fr_imul dX12_wed_157 rfl ?_
        refine fr_iload (q := 0) rfl dX12_wed_158 rfl ?_
        refine fr_iadd dX12_wed_160 rfl ?_
        refine fr_iconst (v := 1) (by decide) dX12_wed_161 rfl ?_
        obtain ⟨hz6, h⟩ := h
        refine fr_iast dX12_wed_162 rfl k_o_asked hz6 ?_
        refine fr_memI (fun I7 hI7 => ?_)
        have h := h I7 hI7
        refine fr_aload_n (i := 0) (q := 1) rfl dX12_wed_163 rfl ?_
        refine fr_iload_n (i := 2) (q := 2) rfl dX12_wed_164 rfl ?_
        refine fr_iload (q := 0) rfl dX12_wed_165 rfl ?_
        refine fr_iload (q := 5) rfl dX12_wed_167 rfl ?_
        obtain ⟨v8, hc9, h⟩ := h
        refine fr_callV2 (ν := mu_X12_isMore) (st2 := [.int v8]) (As := [.int u2, .int v4, .int u5]) (st := []) (v := (some (.int v8))) (M1 := (Z, I7, L)) dX12_wed_169 rfl ml_X12_362 mo_X12_isMore mi_X12_isMore (ci := 12) rfl rfl k_o (Nat.le_of_ble_eq_true rfl) rfl rfl (Nat.le_of_ble_eq_true rfl) hc9 rfl ?_
        refine fr_if_eq (tgt := 228) dX12_wed_172 (by decide) rfl (fun hc => ?_) (fun hc => ?_)
        · have h := h.1 hc
          refine fr_goto (n := 108) dX12_wed_228 (by decide) ?_
          exact fr_sub [1, 2, 3, 4, 5] rfl h
        · have h := h.2 hc
          refine fr_aload_n (i := 0) (q := 1) rfl dX12_wed_175 rfl ?_
          refine fr_getR dX12_wed_176 rfl fl_X12_73 k_o r_o_has ?_
          refine fr_bipush (v := 6) (by decide) dX12_wed_179 rfl ?_
          refine fr_iload (q := 0) rfl dX12_wed_181 rfl ?_
          refine fr_iadd dX12_wed_183 rfl ?_
          obtain ⟨hz10, h⟩ := h
          refine fr_iald dX12_wed_184 rfl k_o_has hz10 ?_
          refine fr_if_lt (tgt := 204) dX12_wed_185 (by decide) rfl (fun hc => ?_) (fun hc => ?_)
          · have h := h.1 hc
            refine fr_aload_n (i := 0) (q := 1) rfl dX12_wed_204 rfl ?_
            refine fr_getR dX12_wed_205 rfl fl_X12_73 k_o r_o_has ?_
            refine fr_bipush (v := 6) (by decide) dX12_wed_208 rfl ?_
            refine fr_iload (q := 0) rfl dX12_wed_210 rfl ?_
            refine fr_iadd dX12_wed_212 rfl ?_
            refine fr_iload (q := 5) rfl dX12_wed_213 rfl ?_
            obtain ⟨hz11, h⟩ := h
            refine fr_iast dX12_wed_215 rfl k_o_has hz11 ?_
            refine fr_memI (fun I12 hI12 => ?_)
            have h := h I12 hI12
            refine fr_aload_n (i := 0) (q := 1) rfl dX12_wed_216 rfl ?_
            refine fr_getR dX12_wed_217 rfl fl_X12_73 k_o r_o_has ?_
            refine fr_iload (q := 5) rfl dX12_wed_220 rfl ?_
            refine fr_iload (q := 0) rfl dX12_wed_222 rfl ?_
            obtain ⟨hz13, h⟩ := h
            refine fr_iast dX12_wed_224 rfl k_o_has hz13 ?_
            refine fr_memI (fun I14 hI14 => ?_)
            have h := h I14 hI14
            refine fr_iconst (v := 0) (by decide) dX12_wed_225 rfl ?_
            refine fr_istore (lv' := [(5, .int 0), (6, .int v4), (0, rf g o), (2, .int u2), (3, .int u3), (4, .int u4)]) dX12_wed_226 rfl (by decide) rfl ?_
            refine fr_goto (n := 108) dX12_wed_228 (by decide) ?_
            exact fr_sub [2, 3, 4, 5, 0] rfl h
          · have h := h.2 hc
            refine fr_aload_n (i := 0) (q := 1) rfl dX12_wed_188 rfl ?_
            refine fr_getR dX12_wed_189 rfl fl_X12_73 k_o r_o_has ?_
            refine fr_aload_n (i := 0) (q := 1) rfl dX12_wed_192 rfl ?_
            refine fr_getR dX12_wed_193 rfl fl_X12_73 k_o r_o_has ?_
            refine fr_bipush (v := 6) (by decide) dX12_wed_196 rfl ?_
            refine fr_iload (q := 0) rfl dX12_wed_198 rfl ?_
            refine fr_iadd dX12_wed_200 rfl ?_
            obtain ⟨hz15, h⟩ := h
            refine fr_iald dX12_wed_201 rfl k_o_has hz15 ?_
            refine fr_iconst (v := (-1)) (by decide) dX12_wed_202 rfl ?_
            obtain ⟨hz16, h⟩ := h
            refine fr_iast dX12_wed_203 rfl k_o_has hz16 ?_
            refine fr_memI (fun I17 hI17 => ?_)
            have h := h I17 hI17
            refine fr_aload_n (i := 0) (q := 1) rfl dX12_wed_204 rfl ?_
            refine fr_getR dX12_wed_205 rfl fl_X12_73 k_o r_o_has ?_
            refine fr_bipush (v := 6) (by decide) dX12_wed_208 rfl ?_
            refine fr_iload (q := 0) rfl dX12_wed_210 rfl ?_
            refine fr_iadd dX12_wed_212 rfl ?_
            refine fr_iload (q := 5) rfl dX12_wed_213 rfl ?_
            obtain ⟨hz18, h⟩ := h
            refine fr_iast dX12_wed_215 rfl k_o_has hz18 ?_
            refine fr_memI (fun I19 hI19 => ?_)
            have h := h I19 hI19
            refine fr_aload_n (i := 0) (q := 1) rfl dX12_wed_216 rfl ?_
            refine fr_getR dX12_wed_217 rfl fl_X12_73 k_o r_o_has ?_
            refine fr_iload (q := 5) rfl dX12_wed_220 rfl ?_
            refine fr_iload (q := 0) rfl dX12_wed_222 rfl ?_
            obtain ⟨hz20, h⟩ := h
            refine fr_iast dX12_wed_224 rfl k_o_has hz20 ?_
            refine fr_memI (fun I21 hI21 => ?_)
            have h := h I21 hI21
            refine fr_iconst (v := 0) (by decide) dX12_wed_225 rfl ?_
            refine fr_istore (lv' := [(5, .int 0), (6, .int v4), (0, rf g o), (2, .int u2), (3, .int u3), (4, .int u4)]) dX12_wed_226 rfl (by decide) rfl ?_
            refine fr_goto (n := 108) dX12_wed_228 (by decide) ?_
            exact fr_sub [2, 3, 4, 5, 0] rfl h
      · have h := h.2 hc
        obtain ⟨y22, hy22⟩ : ∃ y : Int32, y = u5 + 1 := ⟨_, rfl⟩
        have h := h y22 hy22
        refine fr_iinc (q := 5) (v := y22) (lv' := [(5, .int y22), (6, .int v4), (0, rf g o), (2, .int u2), (3, .int u3), (4, .int u4)]) rfl (by rw [hy22]; rfl) dX12_wed_143 rfl (by decide) rfl ?_
        refine fr_goto (n := 108) dX12_wed_146 (by decide) ?_
        exact fr_sub [2, 3, 4, 5, 0] rfl h
    · have h := h.2 hc
      refine fr_iconst (v := (-1)) (by decide) dX12_wed_125 rfl ?_
      refine fr_goto (n := 136) dX12_wed_126 (by decide) ?_
      refine fr_topi (fun y23 hy23 => ?_)
      have h := h y23 hy23
      refine fr_istore (lv' := [(6, .int y23), (0, rf g o), (2, .int u2), (3, .int u3), (4, .int u4), (5, .int u5)]) dX12_wed_136 rfl (by decide) rfl ?_
      refine fr_iload (q := 0) rfl dX12_wed_138 rfl ?_
      refine fr_if_ge (tgt := 149) dX12_wed_140 (by decide) rfl (fun hc => ?_) (fun hc => ?_)
      · have h := h.1 hc
        refine fr_aload_n (i := 0) (q := 1) rfl dX12_wed_149 rfl ?_
        refine fr_getR dX12_wed_150 rfl fl_X12_76 k_o r_o_asked ?_
        refine fr_bipush (v := 6) (by decide) dX12_wed_153 rfl ?_
        refine fr_iload (q := 5) rfl dX12_wed_155 rfl ?_
        refine fr_imul dX12_wed_157 rfl ?_
        refine fr_iload (q := 0) rfl dX12_wed_158 rfl ?_
        refine fr_iadd dX12_wed_160 rfl ?_
        refine fr_iconst (v := 1) (by decide) dX12_wed_161 rfl ?_
        obtain ⟨hz24, h⟩ := h
        refine fr_iast dX12_wed_162 rfl k_o_asked hz24 ?_
        refine fr_memI (fun I25 hI25 => ?_)
        have h := h I25 hI25
        refine fr_aload_n (i := 0) (q := 1) rfl dX12_wed_163 rfl ?_
        refine fr_iload_n (i := 2) (q := 2) rfl dX12_wed_164 rfl ?_
        refine fr_iload (q := 0) rfl dX12_wed_165 rfl ?_
        refine fr_iload (q := 5) rfl dX12_wed_167 rfl ?_
        obtain ⟨v26, hc27, h⟩ := h
        refine fr_callV2 (ν := mu_X12_isMore) (st2 := [.int v26]) (As := [.int u2, .int y23, .int u5]) (st := []) (v := (some (.int v26))) (M1 := (Z, I25, L)) dX12_wed_169 rfl ml_X12_362 mo_X12_isMore mi_X12_isMore (ci := 12) rfl rfl k_o (Nat.le_of_ble_eq_true rfl) rfl rfl (Nat.le_of_ble_eq_true rfl) hc27 rfl ?_
        refine fr_if_eq (tgt := 228) dX12_wed_172 (by decide) rfl (fun hc => ?_) (fun hc => ?_)
        · have h := h.1 hc
          refine fr_goto (n := 108) dX12_wed_228 (by decide) ?_
          exact fr_sub [1, 2, 3, 4, 5] rfl h
        · have h := h.2 hc
          refine fr_aload_n (i := 0) (q := 1) rfl dX12_wed_175 rfl ?_
          refine fr_getR dX12_wed_176 rfl fl_X12_73 k_o r_o_has ?_
          refine fr_bipush (v := 6) (by decide) dX12_wed_179 rfl ?_
          refine fr_iload (q := 0) rfl dX12_wed_181 rfl ?_
          refine fr_iadd dX12_wed_183 rfl ?_
          obtain ⟨hz28, h⟩ := h
          refine fr_iald dX12_wed_184 rfl k_o_has hz28 ?_
          refine fr_if_lt (tgt := 204) dX12_wed_185 (by decide) rfl (fun hc => ?_) (fun hc => ?_)
          · have h := h.1 hc
            refine fr_aload_n (i := 0) (q := 1) rfl dX12_wed_204 rfl ?_
            refine fr_getR dX12_wed_205 rfl fl_X12_73 k_o r_o_has ?_
            refine fr_bipush (v := 6) (by decide) dX12_wed_208 rfl ?_
            refine fr_iload (q := 0) rfl dX12_wed_210 rfl ?_
            refine fr_iadd dX12_wed_212 rfl ?_
            refine fr_iload (q := 5) rfl dX12_wed_213 rfl ?_
            obtain ⟨hz29, h⟩ := h
            refine fr_iast dX12_wed_215 rfl k_o_has hz29 ?_
            refine fr_memI (fun I30 hI30 => ?_)
            have h := h I30 hI30
            refine fr_aload_n (i := 0) (q := 1) rfl dX12_wed_216 rfl ?_
            refine fr_getR dX12_wed_217 rfl fl_X12_73 k_o r_o_has ?_
            refine fr_iload (q := 5) rfl dX12_wed_220 rfl ?_
            refine fr_iload (q := 0) rfl dX12_wed_222 rfl ?_
            obtain ⟨hz31, h⟩ := h
            refine fr_iast dX12_wed_224 rfl k_o_has hz31 ?_
            refine fr_memI (fun I32 hI32 => ?_)
            have h := h I32 hI32
            refine fr_iconst (v := 0) (by decide) dX12_wed_225 rfl ?_
            refine fr_istore (lv' := [(5, .int 0), (6, .int y23), (0, rf g o), (2, .int u2), (3, .int u3), (4, .int u4)]) dX12_wed_226 rfl (by decide) rfl ?_
            refine fr_goto (n := 108) dX12_wed_228 (by decide) ?_
            exact fr_sub [2, 3, 4, 5, 0] rfl h
          · have h := h.2 hc
            refine fr_aload_n (i := 0) (q := 1) rfl dX12_wed_188 rfl ?_
            refine fr_getR dX12_wed_189 rfl fl_X12_73 k_o r_o_has ?_
            refine fr_aload_n (i := 0) (q := 1) rfl dX12_wed_192 rfl ?_
            refine fr_getR dX12_wed_193 rfl fl_X12_73 k_o r_o_has ?_
            refine fr_bipush (v := 6) (by decide) dX12_wed_196 rfl ?_
            refine fr_iload (q := 0) rfl dX12_wed_198 rfl ?_
            refine fr_iadd dX12_wed_200 rfl ?_
            obtain ⟨hz33, h⟩ := h
            refine fr_iald dX12_wed_201 rfl k_o_has hz33 ?_
            refine fr_iconst (v := (-1)) (by decide) dX12_wed_202 rfl ?_
            obtain ⟨hz34, h⟩ := h
            refine fr_iast dX12_wed_203 rfl k_o_has hz34 ?_
            refine fr_memI (fun I35 hI35 => ?_)
            have h := h I35 hI35
            refine fr_aload_n (i := 0) (q := 1) rfl dX12_wed_204 rfl ?_
            refine fr_getR dX12_wed_205 rfl fl_X12_73 k_o r_o_has ?_
            refine fr_bipush (v := 6) (by decide) dX12_wed_208 rfl ?_
            refine fr_iload (q := 0) rfl dX12_wed_210 rfl ?_
            refine fr_iadd dX12_wed_212 rfl ?_
            refine fr_iload (q := 5) rfl dX12_wed_213 rfl ?_
            obtain ⟨hz36, h⟩ := h
            refine fr_iast dX12_wed_215 rfl k_o_has hz36 ?_
            refine fr_memI (fun I37 hI37 => ?_)
            have h := h I37 hI37
            refine fr_aload_n (i := 0) (q := 1) rfl dX12_wed_216 rfl ?_
            refine fr_getR dX12_wed_217 rfl fl_X12_73 k_o r_o_has ?_
            refine fr_iload (q := 5) rfl dX12_wed_220 rfl ?_
            refine fr_iload (q := 0) rfl dX12_wed_222 rfl ?_
            obtain ⟨hz38, h⟩ := h
            refine fr_iast dX12_wed_224 rfl k_o_has hz38 ?_
            refine fr_memI (fun I39 hI39 => ?_)
            have h := h I39 hI39
            refine fr_iconst (v := 0) (by decide) dX12_wed_225 rfl ?_
            refine fr_istore (lv' := [(5, .int 0), (6, .int y23), (0, rf g o), (2, .int u2), (3, .int u3), (4, .int u4)]) dX12_wed_226 rfl (by decide) rfl ?_
            refine fr_goto (n := 108) dX12_wed_228 (by decide) ?_
            exact fr_sub [2, 3, 4, 5, 0] rfl h
      · have h := h.2 hc
        obtain ⟨y40, hy40⟩ : ∃ y : Int32, y = u5 + 1 := ⟨_, rfl⟩
        have h := h y40 hy40
        refine fr_iinc (q := 5) (v := y40) (lv' := [(5, .int y40), (6, .int y23), (0, rf g o), (2, .int u2), (3, .int u3), (4, .int u4)]) rfl (by rw [hy40]; rfl) dX12_wed_143 rfl (by decide) rfl ?_
        refine fr_goto (n := 108) dX12_wed_146 (by decide) ?_
        exact fr_sub [2, 3, 4, 5, 0] rfl h
abbrev Lp_X12_isTaken_2 (g : GE) (d : Nat) (o : Nat) (u1 : Int32) (u2 : Int32) (u3 : Int32) (M : Mem) (r : Option Value) (M' : Mem) : Prop := Fr g d mu_X12_isTaken 2 [(0, rf g o), (1, .int u1), (2, .int u2), (3, .int u3)] [] M r M'
theorem cp_X12_isTaken {g : GE} {Z : Zs} {I : Nat → Nat → Int32} {L : Nat → Nat → Int64} {r : Option Value} {M' : Mem} {o : Nat} {x1 : Int32} {x2 : Int32} (k_o : KM Z o 12) (h : Lp_X12_isTaken_2 g 1 o x1 x2 0 (Z, I, L) r M') : Cl g 1 mu_X12_isTaken [rf g o, .int x1, .int x2] (Z, I, L) r M' := by
  refine cl_of (lv := [(0, rf g o), (1, .int x1), (2, .int x2)]) (by decide) (Nat.le_of_ble_eq_true rfl) rfl ?_
  refine fr_iconst (v := 0) (by decide) dX12_isTaken_0 rfl ?_
  refine fr_istore_n (i := 3) (lv' := [(3, .int 0), (0, rf g o), (1, .int x1), (2, .int x2)]) dX12_isTaken_1 rfl (by decide) rfl ?_
  exact fr_sub [1, 2, 3, 0] rfl h
theorem wp_X12_isTaken_2 {g : GE} {Z : Zs} {I : Nat → Nat → Int32} {L : Nat → Nat → Int64} {r : Option Value} {M' : Mem} {o : Nat} {u1 : Int32} {u2 : Int32} {u3 : Int32} {o_a : Nat} {o_places : Nat} (k_o : KM Z o 12) (r_o_a : Z.2.1 o 0 = some o_a) (k_o_a : KM Z o_a 13) (r_o_places : Z.2.1 o 41 = some o_places) (k_o_places : KM Z o_places 13) (h : (vp_in 0 (Z.2.2.1 o_a) ∧ (((I o_a (0 : Int32).toNatClampNeg) ≤ u3 → (r = some (.int 0) ∧ M' = (Z, I, L))) ∧ (¬ (I o_a (0 : Int32).toNatClampNeg) ≤ u3 → ((u3 = u1 → (∀ y2 : Int32, y2 = (u3 + 1) → Lp_X12_isTaken_2 g 1 o u1 u2 y2 (Z, I, L) r M')) ∧ (¬ u3 = u1 → (vp_in u3 (Z.2.2.1 o_places) ∧ (((I o_places u3.toNatClampNeg) < 0 → (∀ y4 : Int32, y4 = (u3 + 1) → Lp_X12_isTaken_2 g 1 o u1 u2 y4 (Z, I, L) r M')) ∧ (¬ (I o_places u3.toNatClampNeg) < 0 → (vp_in u3 (Z.2.2.1 o_places) ∧ ((¬ ((I o_places u3.toNatClampNeg) / 4) = u2 → (∀ y6 : Int32, y6 = (u3 + 1) → Lp_X12_isTaken_2 g 1 o u1 u2 y6 (Z, I, L) r M')) ∧ (((I o_places u3.toNatClampNeg) / 4) = u2 → (r = some (.int 1) ∧ M' = (Z, I, L)))))))))))))) : Lp_X12_isTaken_2 g 1 o u1 u2 u3 (Z, I, L) r M' := by
  refine fr_iload_n (i := 3) (q := 3) rfl dX12_isTaken_2 rfl ?_
  refine fr_aload_n (i := 0) (q := 0) rfl dX12_isTaken_3 rfl ?_
  refine fr_getR dX12_isTaken_4 rfl fl_X12_7 k_o r_o_a ?_
  refine fr_iconst (v := 0) (by decide) dX12_isTaken_7 rfl ?_
  obtain ⟨hz1, h⟩ := h
  refine fr_iald dX12_isTaken_8 rfl k_o_a hz1 ?_
  refine fr_icmp_ge (tgt := 46) dX12_isTaken_9 (by decide) rfl (fun hc => ?_) (fun hc => ?_)
  · have h := h.1 hc
    refine fr_iconst (v := 0) (by decide) dX12_isTaken_46 rfl ?_
    exact fr_zret (by decide) rfl dX12_isTaken_47 h.1 h.2
  · have h := h.2 hc
    refine fr_iload_n (i := 3) (q := 3) rfl dX12_isTaken_12 rfl ?_
    refine fr_iload_n (i := 1) (q := 1) rfl dX12_isTaken_13 rfl ?_
    refine fr_icmp_eq (tgt := 40) dX12_isTaken_14 (by decide) rfl (fun hc => ?_) (fun hc => ?_)
    · have h := h.1 hc
      obtain ⟨y2, hy2⟩ : ∃ y : Int32, y = u3 + 1 := ⟨_, rfl⟩
      have h := h y2 hy2
      refine fr_iinc (q := 3) (v := y2) (lv' := [(3, .int y2), (0, rf g o), (1, .int u1), (2, .int u2)]) rfl (by rw [hy2]; rfl) dX12_isTaken_40 rfl (by decide) rfl ?_
      refine fr_goto (n := 2) dX12_isTaken_43 (by decide) ?_
      exact fr_sub [1, 2, 3, 0] rfl h
    · have h := h.2 hc
      refine fr_aload_n (i := 0) (q := 0) rfl dX12_isTaken_17 rfl ?_
      refine fr_getR dX12_isTaken_18 rfl fl_X12_79 k_o r_o_places ?_
      refine fr_iload_n (i := 3) (q := 3) rfl dX12_isTaken_21 rfl ?_
      obtain ⟨hz3, h⟩ := h
      refine fr_iald dX12_isTaken_22 rfl k_o_places hz3 ?_
      refine fr_if_lt (tgt := 40) dX12_isTaken_23 (by decide) rfl (fun hc => ?_) (fun hc => ?_)
      · have h := h.1 hc
        obtain ⟨y4, hy4⟩ : ∃ y : Int32, y = u3 + 1 := ⟨_, rfl⟩
        have h := h y4 hy4
        refine fr_iinc (q := 3) (v := y4) (lv' := [(3, .int y4), (0, rf g o), (1, .int u1), (2, .int u2)]) rfl (by rw [hy4]; rfl) dX12_isTaken_40 rfl (by decide) rfl ?_
        refine fr_goto (n := 2) dX12_isTaken_43 (by decide) ?_
        exact fr_sub [1, 2, 3, 0] rfl h
      · have h := h.2 hc
        refine fr_aload_n (i := 0) (q := 0) rfl dX12_isTaken_26 rfl ?_
        refine fr_getR dX12_isTaken_27 rfl fl_X12_79 k_o r_o_places ?_
        refine fr_iload_n (i := 3) (q := 3) rfl dX12_isTaken_30 rfl ?_
        obtain ⟨hz5, h⟩ := h
        refine fr_iald dX12_isTaken_31 rfl k_o_places hz5 ?_
        refine fr_iconst (v := 4) (by decide) dX12_isTaken_32 rfl ?_
        refine fr_idiv (by decide) dX12_isTaken_33 rfl ?_
        refine fr_iload_n (i := 2) (q := 2) rfl dX12_isTaken_34 rfl ?_
        refine fr_icmp_ne (tgt := 40) dX12_isTaken_35 (by decide) rfl (fun hc => ?_) (fun hc => ?_)
        · have h := h.1 hc
          obtain ⟨y6, hy6⟩ : ∃ y : Int32, y = u3 + 1 := ⟨_, rfl⟩
          have h := h y6 hy6
          refine fr_iinc (q := 3) (v := y6) (lv' := [(3, .int y6), (0, rf g o), (1, .int u1), (2, .int u2)]) rfl (by rw [hy6]; rfl) dX12_isTaken_40 rfl (by decide) rfl ?_
          refine fr_goto (n := 2) dX12_isTaken_43 (by decide) ?_
          exact fr_sub [1, 2, 3, 0] rfl h
        · have h := h.2 hc
          refine fr_iconst (v := 1) (by decide) dX12_isTaken_38 rfl ?_
          exact fr_zret (by decide) rfl dX12_isTaken_39 h.1 h.2
abbrev Lp_X12_areHome_4 (g : GE) (d : Nat) (o : Nat) (u1 : Int32) (u2 : Int32) (u3 : Int32) (M : Mem) (r : Option Value) (M' : Mem) : Prop := Fr g d mu_X12_areHome 4 [(0, rf g o), (1, .int u1), (2, .int u2), (3, .int u3)] [] M r M'
theorem cp_X12_areHome {g : GE} {Z : Zs} {I : Nat → Nat → Int32} {L : Nat → Nat → Int64} {r : Option Value} {M' : Mem} {o : Nat} {x1 : Int32} (k_o : KM Z o 12) (h : Lp_X12_areHome_4 g 1 o x1 1 0 (Z, I, L) r M') : Cl g 1 mu_X12_areHome [rf g o, .int x1] (Z, I, L) r M' := by
  refine cl_of (lv := [(0, rf g o), (1, .int x1)]) (by decide) (Nat.le_of_ble_eq_true rfl) rfl ?_
  refine fr_iconst (v := 1) (by decide) dX12_areHome_0 rfl ?_
  refine fr_istore_n (i := 2) (lv' := [(2, .int 1), (0, rf g o), (1, .int x1)]) dX12_areHome_1 rfl (by decide) rfl ?_
  refine fr_iconst (v := 0) (by decide) dX12_areHome_2 rfl ?_
  refine fr_istore_n (i := 3) (lv' := [(3, .int 0), (2, .int 1), (0, rf g o), (1, .int x1)]) dX12_areHome_3 rfl (by decide) rfl ?_
  exact fr_sub [2, 3, 1, 0] rfl h
theorem wp_X12_areHome_4 {g : GE} {Z : Zs} {I : Nat → Nat → Int32} {L : Nat → Nat → Int64} {r : Option Value} {M' : Mem} {o : Nat} {u1 : Int32} {u2 : Int32} {u3 : Int32} {o_a : Nat} {o_places : Nat} (k_o : KM Z o 12) (r_o_a : Z.2.1 o 0 = some o_a) (k_o_a : KM Z o_a 13) (r_o_places : Z.2.1 o 41 = some o_places) (k_o_places : KM Z o_places 13) (h : (vp_in 0 (Z.2.2.1 o_a) ∧ (((I o_a (0 : Int32).toNatClampNeg) ≤ u3 → ((u2 = 0 ∨ u2 = 1) ∧ r = some (.int u2) ∧ M' = (Z, I, L))) ∧ (¬ (I o_a (0 : Int32).toNatClampNeg) ≤ u3 → (vp_in u3 (Z.2.2.1 o_places) ∧ (((I o_places u3.toNatClampNeg) < 0 → ((u2 = 0 → (∀ y3 : Int32, y3 = (u3 + 1) → Lp_X12_areHome_4 g 1 o u1 0 y3 (Z, I, L) r M')) ∧ (¬ u2 = 0 → (vp_in u3 (Z.2.2.1 o_places) ∧ ((0 ≤ (I o_places u3.toNatClampNeg) → (∀ y5 : Int32, y5 = (u3 + 1) → Lp_X12_areHome_4 g 1 o u1 0 y5 (Z, I, L) r M')) ∧ (¬ 0 ≤ (I o_places u3.toNatClampNeg) → (∀ y6 : Int32, y6 = (u3 + 1) → Lp_X12_areHome_4 g 1 o u1 1 y6 (Z, I, L) r M'))))))) ∧ (¬ (I o_places u3.toNatClampNeg) < 0 → (vp_in u3 (Z.2.2.1 o_places) ∧ ((¬ ((I o_places u3.toNatClampNeg) / 4) = u1 → ((u2 = 0 → (∀ y8 : Int32, y8 = (u3 + 1) → Lp_X12_areHome_4 g 1 o u1 0 y8 (Z, I, L) r M')) ∧ (¬ u2 = 0 → (vp_in u3 (Z.2.2.1 o_places) ∧ ((0 ≤ (I o_places u3.toNatClampNeg) → (∀ y10 : Int32, y10 = (u3 + 1) → Lp_X12_areHome_4 g 1 o u1 0 y10 (Z, I, L) r M')) ∧ (¬ 0 ≤ (I o_places u3.toNatClampNeg) → (∀ y11 : Int32, y11 = (u3 + 1) → Lp_X12_areHome_4 g 1 o u1 1 y11 (Z, I, L) r M'))))))) ∧ (((I o_places u3.toNatClampNeg) / 4) = u1 → (vp_in u3 (Z.2.2.1 o_places) ∧ (∀ I13 : Nat → Nat → Int32, I13 = rw1 I o_places (upd (I o_places) u3.toNatClampNeg ((-1))) → ((u2 = 0 → (∀ y14 : Int32, y14 = (u3 + 1) → Lp_X12_areHome_4 g 1 o u1 0 y14 (Z, I13, L) r M')) ∧ (¬ u2 = 0 → (vp_in u3 (Z.2.2.1 o_places) ∧ ((0 ≤ (I13 o_places u3.toNatClampNeg) → (∀ y16 : Int32, y16 = (u3 + 1) → Lp_X12_areHome_4 g 1 o u1 0 y16 (Z, I13, L) r M')) ∧ (¬ 0 ≤ (I13 o_places u3.toNatClampNeg) → (∀ y17 : Int32, y17 = (u3 + 1) → Lp_X12_areHome_4 g 1 o u1 1 y17 (Z, I13, L) r M')))))))))))))))))) : Lp_X12_areHome_4 g 1 o u1 u2 u3 (Z, I, L) r M' := by
  refine fr_iload_n (i := 3) (q := 3) rfl dX12_areHome_4 rfl ?_
  refine fr_aload_n (i := 0) (q := 0) rfl dX12_areHome_5 rfl ?_
  refine fr_getR dX12_areHome_6 rfl fl_X12_7 k_o r_o_a ?_
  refine fr_iconst (v := 0) (by decide) dX12_areHome_9 rfl ?_
  obtain ⟨hz1, h⟩ := h
  refine fr_iald dX12_areHome_10 rfl k_o_a hz1 ?_
  refine fr_icmp_ge (tgt := 67) dX12_areHome_11 (by decide) rfl (fun hc => ?_) (fun hc => ?_)
  · have h := h.1 hc
    refine fr_iload_n (i := 2) (q := 2) rfl dX12_areHome_67 rfl ?_
    exact fr_zret h.1 rfl dX12_areHome_68 h.2.1 h.2.2
  · have h := h.2 hc
    refine fr_aload_n (i := 0) (q := 0) rfl dX12_areHome_14 rfl ?_
    refine fr_getR dX12_areHome_15 rfl fl_X12_79 k_o r_o_places ?_
    refine fr_iload_n (i := 3) (q := 3) rfl dX12_areHome_18 rfl ?_
    obtain ⟨hz2, h⟩ := h
    refine fr_iald dX12_areHome_19 rfl k_o_places hz2 ?_
    refine fr_if_lt (tgt := 42) dX12_areHome_20 (by decide) rfl (fun hc => ?_) (fun hc => ?_)
    · have h := h.1 hc
      refine fr_iload_n (i := 2) (q := 2) rfl dX12_areHome_42 rfl ?_
      refine fr_if_eq (tgt := 59) dX12_areHome_43 (by decide) rfl (fun hc => ?_) (fun hc => ?_)
      · have h := h.1 hc
        refine fr_iconst (v := 0) (by decide) dX12_areHome_59 rfl ?_
        refine fr_istore_n (i := 2) (lv' := [(2, .int 0), (0, rf g o), (1, .int u1), (3, .int u3)]) dX12_areHome_60 rfl (by decide) rfl ?_
        obtain ⟨y3, hy3⟩ : ∃ y : Int32, y = u3 + 1 := ⟨_, rfl⟩
        have h := h y3 hy3
        refine fr_iinc (q := 3) (v := y3) (lv' := [(3, .int y3), (2, .int 0), (0, rf g o), (1, .int u1)]) rfl (by rw [hy3]; rfl) dX12_areHome_61 rfl (by decide) rfl ?_
        refine fr_goto (n := 4) dX12_areHome_64 (by decide) ?_
        exact fr_sub [2, 3, 1, 0] rfl h
      · have h := h.2 hc
        refine fr_aload_n (i := 0) (q := 0) rfl dX12_areHome_46 rfl ?_
        refine fr_getR dX12_areHome_47 rfl fl_X12_79 k_o r_o_places ?_
        refine fr_iload_n (i := 3) (q := 3) rfl dX12_areHome_50 rfl ?_
        obtain ⟨hz4, h⟩ := h
        refine fr_iald dX12_areHome_51 rfl k_o_places hz4 ?_
        refine fr_if_ge (tgt := 59) dX12_areHome_52 (by decide) rfl (fun hc => ?_) (fun hc => ?_)
        · have h := h.1 hc
          refine fr_iconst (v := 0) (by decide) dX12_areHome_59 rfl ?_
          refine fr_istore_n (i := 2) (lv' := [(2, .int 0), (0, rf g o), (1, .int u1), (3, .int u3)]) dX12_areHome_60 rfl (by decide) rfl ?_
          obtain ⟨y5, hy5⟩ : ∃ y : Int32, y = u3 + 1 := ⟨_, rfl⟩
          have h := h y5 hy5
          refine fr_iinc (q := 3) (v := y5) (lv' := [(3, .int y5), (2, .int 0), (0, rf g o), (1, .int u1)]) rfl (by rw [hy5]; rfl) dX12_areHome_61 rfl (by decide) rfl ?_
          refine fr_goto (n := 4) dX12_areHome_64 (by decide) ?_
          exact fr_sub [2, 3, 1, 0] rfl h
        · have h := h.2 hc
          refine fr_iconst (v := 1) (by decide) dX12_areHome_55 rfl ?_
          refine fr_goto (n := 60) dX12_areHome_56 (by decide) ?_
          refine fr_istore_n (i := 2) (lv' := [(2, .int 1), (0, rf g o), (1, .int u1), (3, .int u3)]) dX12_areHome_60 rfl (by decide) rfl ?_
          obtain ⟨y6, hy6⟩ : ∃ y : Int32, y = u3 + 1 := ⟨_, rfl⟩
          have h := h y6 hy6
          refine fr_iinc (q := 3) (v := y6) (lv' := [(3, .int y6), (2, .int 1), (0, rf g o), (1, .int u1)]) rfl (by rw [hy6]; rfl) dX12_areHome_61 rfl (by decide) rfl ?_
          refine fr_goto (n := 4) dX12_areHome_64 (by decide) ?_
          exact fr_sub [2, 3, 1, 0] rfl h
    · have h := h.2 hc
      refine fr_aload_n (i := 0) (q := 0) rfl dX12_areHome_23 rfl ?_
      refine fr_getR dX12_areHome_24 rfl fl_X12_79 k_o r_o_places ?_
      refine fr_iload_n (i := 3) (q := 3) rfl dX12_areHome_27 rfl ?_
      obtain ⟨hz7, h⟩ := h
      refine fr_iald dX12_areHome_28 rfl k_o_places hz7 ?_
      refine fr_iconst (v := 4) (by decide) dX12_areHome_29 rfl ?_
      refine fr_idiv (by decide) dX12_areHome_30 rfl ?_
      refine fr_iload_n (i := 1) (q := 1) rfl dX12_areHome_31 rfl ?_
      refine fr_icmp_ne (tgt := 42) dX12_areHome_32 (by decide) rfl (fun hc => ?_) (fun hc => ?_)
      · have h := h.1 hc
        refine fr_iload_n (i := 2) (q := 2) rfl dX12_areHome_42 rfl ?_
        refine fr_if_eq (tgt := 59) dX12_areHome_43 (by decide) rfl (fun hc => ?_) (fun hc => ?_)
        · have h := h.1 hc
          refine fr_iconst (v := 0) (by decide) dX12_areHome_59 rfl ?_
          refine fr_istore_n (i := 2) (lv' := [(2, .int 0), (0, rf g o), (1, .int u1), (3, .int u3)]) dX12_areHome_60 rfl (by decide) rfl ?_
          obtain ⟨y8, hy8⟩ : ∃ y : Int32, y = u3 + 1 := ⟨_, rfl⟩
          have h := h y8 hy8
          refine fr_iinc (q := 3) (v := y8) (lv' := [(3, .int y8), (2, .int 0), (0, rf g o), (1, .int u1)]) rfl (by rw [hy8]; rfl) dX12_areHome_61 rfl (by decide) rfl ?_
          refine fr_goto (n := 4) dX12_areHome_64 (by decide) ?_
          exact fr_sub [2, 3, 1, 0] rfl h
        · have h := h.2 hc
          refine fr_aload_n (i := 0) (q := 0) rfl dX12_areHome_46 rfl ?_
          refine fr_getR dX12_areHome_47 rfl fl_X12_79 k_o r_o_places ?_
          refine fr_iload_n (i := 3) (q := 3) rfl dX12_areHome_50 rfl ?_
          obtain ⟨hz9, h⟩ := h
          refine fr_iald dX12_areHome_51 rfl k_o_places hz9 ?_
          refine fr_if_ge (tgt := 59) dX12_areHome_52 (by decide) rfl (fun hc => ?_) (fun hc => ?_)
          · have h := h.1 hc
            refine fr_iconst (v := 0) (by decide) dX12_areHome_59 rfl ?_
            refine fr_istore_n (i := 2) (lv' := [(2, .int 0), (0, rf g o), (1, .int u1), (3, .int u3)]) dX12_areHome_60 rfl (by decide) rfl ?_
            obtain ⟨y10, hy10⟩ : ∃ y : Int32, y = u3 + 1 := ⟨_, rfl⟩
            have h := h y10 hy10
            refine fr_iinc (q := 3) (v := y10) (lv' := [(3, .int y10), (2, .int 0), (0, rf g o), (1, .int u1)]) rfl (by rw [hy10]; rfl) dX12_areHome_61 rfl (by decide) rfl ?_
            refine fr_goto (n := 4) dX12_areHome_64 (by decide) ?_
            exact fr_sub [2, 3, 1, 0] rfl h
          · have h := h.2 hc
            refine fr_iconst (v := 1) (by decide) dX12_areHome_55 rfl ?_
            refine fr_goto (n := 60) dX12_areHome_56 (by decide) ?_
            refine fr_istore_n (i := 2) (lv' := [(2, .int 1), (0, rf g o), (1, .int u1), (3, .int u3)]) dX12_areHome_60 rfl (by decide) rfl ?_
            obtain ⟨y11, hy11⟩ : ∃ y : Int32, y = u3 + 1 := ⟨_, rfl⟩
            have h := h y11 hy11
            refine fr_iinc (q := 3) (v := y11) (lv' := [(3, .int y11), (2, .int 1), (0, rf g o), (1, .int u1)]) rfl (by rw [hy11]; rfl) dX12_areHome_61 rfl (by decide) rfl ?_
            refine fr_goto (n := 4) dX12_areHome_64 (by decide) ?_
            exact fr_sub [2, 3, 1, 0] rfl h
      · have h := h.2 hc
        refine fr_aload_n (i := 0) (q := 0) rfl dX12_areHome_35 rfl ?_
        refine fr_getR dX12_areHome_36 rfl fl_X12_79 k_o r_o_places ?_
        refine fr_iload_n (i := 3) (q := 3) rfl dX12_areHome_39 rfl ?_
        refine fr_iconst (v := (-1)) (by decide) dX12_areHome_40 rfl ?_
        obtain ⟨hz12, h⟩ := h
        refine fr_iast dX12_areHome_41 rfl k_o_places hz12 ?_
        refine fr_memI (fun I13 hI13 => ?_)
        have h := h I13 hI13
        refine fr_iload_n (i := 2) (q := 2) rfl dX12_areHome_42 rfl ?_
        refine fr_if_eq (tgt := 59) dX12_areHome_43 (by decide) rfl (fun hc => ?_) (fun hc => ?_)
        · have h := h.1 hc
          refine fr_iconst (v := 0) (by decide) dX12_areHome_59 rfl ?_
          refine fr_istore_n (i := 2) (lv' := [(2, .int 0), (0, rf g o), (1, .int u1), (3, .int u3)]) dX12_areHome_60 rfl (by decide) rfl ?_
          obtain ⟨y14, hy14⟩ : ∃ y : Int32, y = u3 + 1 := ⟨_, rfl⟩
          have h := h y14 hy14
          refine fr_iinc (q := 3) (v := y14) (lv' := [(3, .int y14), (2, .int 0), (0, rf g o), (1, .int u1)]) rfl (by rw [hy14]; rfl) dX12_areHome_61 rfl (by decide) rfl ?_
          refine fr_goto (n := 4) dX12_areHome_64 (by decide) ?_
          exact fr_sub [2, 3, 1, 0] rfl h
        · have h := h.2 hc
          refine fr_aload_n (i := 0) (q := 0) rfl dX12_areHome_46 rfl ?_
          refine fr_getR dX12_areHome_47 rfl fl_X12_79 k_o r_o_places ?_
          refine fr_iload_n (i := 3) (q := 3) rfl dX12_areHome_50 rfl ?_
          obtain ⟨hz15, h⟩ := h
          refine fr_iald dX12_areHome_51 rfl k_o_places hz15 ?_
          refine fr_if_ge (tgt := 59) dX12_areHome_52 (by decide) rfl (fun hc => ?_) (fun hc => ?_)
          · have h := h.1 hc
            refine fr_iconst (v := 0) (by decide) dX12_areHome_59 rfl ?_
            refine fr_istore_n (i := 2) (lv' := [(2, .int 0), (0, rf g o), (1, .int u1), (3, .int u3)]) dX12_areHome_60 rfl (by decide) rfl ?_
            obtain ⟨y16, hy16⟩ : ∃ y : Int32, y = u3 + 1 := ⟨_, rfl⟩
            have h := h y16 hy16
            refine fr_iinc (q := 3) (v := y16) (lv' := [(3, .int y16), (2, .int 0), (0, rf g o), (1, .int u1)]) rfl (by rw [hy16]; rfl) dX12_areHome_61 rfl (by decide) rfl ?_
            refine fr_goto (n := 4) dX12_areHome_64 (by decide) ?_
            exact fr_sub [2, 3, 1, 0] rfl h
          · have h := h.2 hc
            refine fr_iconst (v := 1) (by decide) dX12_areHome_55 rfl ?_
            refine fr_goto (n := 60) dX12_areHome_56 (by decide) ?_
            refine fr_istore_n (i := 2) (lv' := [(2, .int 1), (0, rf g o), (1, .int u1), (3, .int u3)]) dX12_areHome_60 rfl (by decide) rfl ?_
            obtain ⟨y17, hy17⟩ : ∃ y : Int32, y = u3 + 1 := ⟨_, rfl⟩
            have h := h y17 hy17
            refine fr_iinc (q := 3) (v := y17) (lv' := [(3, .int y17), (2, .int 1), (0, rf g o), (1, .int u1)]) rfl (by rw [hy17]; rfl) dX12_areHome_61 rfl (by decide) rfl ?_
            refine fr_goto (n := 4) dX12_areHome_64 (by decide) ?_
            exact fr_sub [2, 3, 1, 0] rfl h
abbrev Lp_X12_crowd_12 (g : GE) (d : Nat) (o : Nat) (u1 : Int32) (u2 : Int32) (M : Mem) (r : Option Value) (M' : Mem) : Prop := Fr g d mu_X12_crowd 12 [(0, rf g o), (1, .int u1), (2, .int u2)] [] M r M'
theorem cp_X12_crowd {g : GE} {Z : Zs} {I : Nat → Nat → Int32} {L : Nat → Nat → Int64} {r : Option Value} {M' : Mem} {o : Nat} {x1 : Int32} (k_o : KM Z o 12) (h : (∃ (v1 : Int32), Cl g 2 mu_X12_isCell [rf g o, .int x1] (Z, I, L) (some (.int v1)) (Z, I, L) ∧ ((¬ v1 = 0 → Lp_X12_crowd_12 g 6 o x1 0 (Z, I, L) r M') ∧ (v1 = 0 → (r = some (.int ((-1))) ∧ M' = (Z, I, L)))))) : Cl g 6 mu_X12_crowd [rf g o, .int x1] (Z, I, L) r M' := by
  refine cl_of (lv := [(0, rf g o), (1, .int x1)]) (by decide) (Nat.le_of_ble_eq_true rfl) rfl ?_
  refine fr_aload_n (i := 0) (q := 0) rfl dX12_crowd_0 rfl ?_
  refine fr_iload_n (i := 1) (q := 1) rfl dX12_crowd_1 rfl ?_
  obtain ⟨v1, hc2, h⟩ := h
  refine fr_callV2 (ν := mu_X12_isCell) (st2 := [.int v1]) (As := [.int x1]) (st := []) (v := (some (.int v1))) (M1 := (Z, I, L)) dX12_crowd_2 rfl ml_X12_103 mo_X12_isCell mi_X12_isCell (ci := 12) rfl rfl k_o (Nat.le_of_ble_eq_true rfl) rfl rfl (Nat.le_of_ble_eq_true rfl) hc2 rfl ?_
  refine fr_if_ne (tgt := 10) dX12_crowd_5 (by decide) rfl (fun hc => ?_) (fun hc => ?_)
  · have h := h.1 hc
    refine fr_iconst (v := 0) (by decide) dX12_crowd_10 rfl ?_
    refine fr_istore_n (i := 2) (lv' := [(2, .int 0), (0, rf g o), (1, .int x1)]) dX12_crowd_11 rfl (by decide) rfl ?_
    exact fr_sub [1, 2, 0] rfl h
  · have h := h.2 hc
    refine fr_iconst (v := (-1)) (by decide) dX12_crowd_8 rfl ?_
    exact fr_iret rfl dX12_crowd_9 h.1 h.2
abbrev Lp_X12_crowd_62 (g : GE) (d : Nat) (o : Nat) (u1 : Int32) (u2 : Int32) (M : Mem) (r : Option Value) (M' : Mem) : Prop := Fr g d mu_X12_crowd 62 [(0, rf g o), (1, .int u1), (2, .int u2)] [] M r M'
theorem wp_X12_crowd_12 {g : GE} {Z : Zs} {I : Nat → Nat → Int32} {L : Nat → Nat → Int64} {r : Option Value} {M' : Mem} {o : Nat} {u1 : Int32} {u2 : Int32} {o_a : Nat} {o_places : Nat} (k_o : KM Z o 12) (r_o_a : Z.2.1 o 0 = some o_a) (k_o_a : KM Z o_a 13) (r_o_places : Z.2.1 o 41 = some o_places) (k_o_places : KM Z o_places 13) (h : (vp_in 0 (Z.2.2.1 o_a) ∧ (((I o_a (0 : Int32).toNatClampNeg) ≤ u2 → (∃ (v2 : Int32) (I3 : Nat → Nat → Int32) (L4 : Nat → Nat → Int64), Cl g 1 mu_X12_areHome [rf g o, .int u1] (Z, I, L) (some (.int v2)) (Z, I3, L4) ∧ ((v2 = 0 → (vp_in 2 (Z.2.2.1 o_a) ∧ ((¬ (I3 o_a (2 : Int32).toNatClampNeg) = 0 → Lp_X12_crowd_62 g 6 o u1 0 (Z, I3, L4) r M') ∧ ((I3 o_a (2 : Int32).toNatClampNeg) = 0 → (r = some (.int ((-1))) ∧ M' = (Z, I3, L4)))))) ∧ (¬ v2 = 0 → (r = some (.int 0) ∧ M' = (Z, I3, L4)))))) ∧ (¬ (I o_a (0 : Int32).toNatClampNeg) ≤ u2 → (∃ (v7 : Int32), Cl g 1 mu_X12_poseOf [rf g o, .int u2] (Z, I, L) (some (.int v7)) (Z, I, L) ∧ (vp_in u2 (Z.2.2.1 o_places) ∧ (∀ I10 : Nat → Nat → Int32, I10 = rw1 I o_places (upd (I o_places) u2.toNatClampNeg v7) → (∀ y11 : Int32, y11 = (u2 + 1) → Lp_X12_crowd_12 g 6 o u1 y11 (Z, I10, L) r M')))))))) : Lp_X12_crowd_12 g 6 o u1 u2 (Z, I, L) r M' := by
  refine fr_iload_n (i := 2) (q := 2) rfl dX12_crowd_12 rfl ?_
  refine fr_aload_n (i := 0) (q := 0) rfl dX12_crowd_13 rfl ?_
  refine fr_getR dX12_crowd_14 rfl fl_X12_7 k_o r_o_a ?_
  refine fr_iconst (v := 0) (by decide) dX12_crowd_17 rfl ?_
  obtain ⟨hz1, h⟩ := h
  refine fr_iald dX12_crowd_18 rfl k_o_a hz1 ?_
  refine fr_icmp_ge (tgt := 39) dX12_crowd_19 (by decide) rfl (fun hc => ?_) (fun hc => ?_)
  · have h := h.1 hc
    refine fr_aload_n (i := 0) (q := 0) rfl dX12_crowd_39 rfl ?_
    refine fr_iload_n (i := 1) (q := 1) rfl dX12_crowd_40 rfl ?_
    obtain ⟨v2, I3, L4, hc5, h⟩ := h
    refine fr_callV2 (ν := mu_X12_areHome) (st2 := [.int v2]) (As := [.int u1]) (st := []) (v := (some (.int v2))) (M1 := (Z, I3, L4)) dX12_crowd_41 rfl ml_X12_365 mo_X12_areHome mi_X12_areHome (ci := 12) rfl rfl k_o (Nat.le_of_ble_eq_true rfl) rfl rfl (Nat.le_of_ble_eq_true rfl) hc5 rfl ?_
    refine fr_if_eq (tgt := 49) dX12_crowd_44 (by decide) rfl (fun hc => ?_) (fun hc => ?_)
    · have h := h.1 hc
      refine fr_aload_n (i := 0) (q := 0) rfl dX12_crowd_49 rfl ?_
      refine fr_getR dX12_crowd_50 rfl fl_X12_7 k_o r_o_a ?_
      refine fr_iconst (v := 2) (by decide) dX12_crowd_53 rfl ?_
      obtain ⟨hz6, h⟩ := h
      refine fr_iald dX12_crowd_54 rfl k_o_a hz6 ?_
      refine fr_if_ne (tgt := 60) dX12_crowd_55 (by decide) rfl (fun hc => ?_) (fun hc => ?_)
      · have h := h.1 hc
        refine fr_iconst (v := 0) (by decide) dX12_crowd_60 rfl ?_
        refine fr_istore_n (i := 2) (lv' := [(2, .int 0), (0, rf g o), (1, .int u1)]) dX12_crowd_61 rfl (by decide) rfl ?_
        exact fr_sub [1, 2, 0] rfl h
      · have h := h.2 hc
        refine fr_iconst (v := (-1)) (by decide) dX12_crowd_58 rfl ?_
        exact fr_iret rfl dX12_crowd_59 h.1 h.2
    · have h := h.2 hc
      refine fr_iconst (v := 0) (by decide) dX12_crowd_47 rfl ?_
      exact fr_iret rfl dX12_crowd_48 h.1 h.2
  · have h := h.2 hc
    refine fr_aload_n (i := 0) (q := 0) rfl dX12_crowd_22 rfl ?_
    refine fr_getR dX12_crowd_23 rfl fl_X12_79 k_o r_o_places ?_
    refine fr_iload_n (i := 2) (q := 2) rfl dX12_crowd_26 rfl ?_
    refine fr_aload_n (i := 0) (q := 0) rfl dX12_crowd_27 rfl ?_
    refine fr_iload_n (i := 2) (q := 2) rfl dX12_crowd_28 rfl ?_
    obtain ⟨v7, hc8, h⟩ := h
    refine fr_callV2 (ν := mu_X12_poseOf) (st2 := [.int v7, .int u2, rf g o_places]) (As := [.int u2]) (st := [.int u2, rf g o_places]) (v := (some (.int v7))) (M1 := (Z, I, L)) dX12_crowd_29 rfl ml_X12_106 mo_X12_poseOf mi_X12_poseOf (ci := 12) rfl rfl k_o (Nat.le_of_ble_eq_true rfl) rfl rfl (Nat.le_of_ble_eq_true rfl) hc8 rfl ?_
    obtain ⟨hz9, h⟩ := h
    refine fr_iast dX12_crowd_32 rfl k_o_places hz9 ?_
    refine fr_memI (fun I10 hI10 => ?_)
    have h := h I10 hI10
    obtain ⟨y11, hy11⟩ : ∃ y : Int32, y = u2 + 1 := ⟨_, rfl⟩
    have h := h y11 hy11
    refine fr_iinc (q := 2) (v := y11) (lv' := [(2, .int y11), (0, rf g o), (1, .int u1)]) rfl (by rw [hy11]; rfl) dX12_crowd_33 rfl (by decide) rfl ?_
    refine fr_goto (n := 12) dX12_crowd_36 (by decide) ?_
    exact fr_sub [1, 2, 0] rfl h
abbrev Lp_X12_crowd_71 (g : GE) (d : Nat) (o : Nat) (u1 : Int32) (u2 : Int32) (u3 : Int32) (M : Mem) (r : Option Value) (M' : Mem) : Prop := Fr g d mu_X12_crowd 71 [(0, rf g o), (1, .int u1), (2, .int u2), (3, .int u3)] [] M r M'
theorem wp_X12_crowd_62 {g : GE} {Z : Zs} {I : Nat → Nat → Int32} {L : Nat → Nat → Int64} {r : Option Value} {M' : Mem} {o : Nat} {u1 : Int32} {u2 : Int32} (k_o : KM Z o 12) (h : ((200 ≤ u2 → (r = some (.int ((-1))) ∧ M' = (Z, I, L))) ∧ (¬ 200 ≤ u2 → Lp_X12_crowd_71 g 6 o u1 u2 0 (Z, I, L) r M'))) : Lp_X12_crowd_62 g 6 o u1 u2 (Z, I, L) r M' := by
  refine fr_iload_n (i := 2) (q := 2) rfl dX12_crowd_62 rfl ?_
  refine fr_sipush (v := 200) (by decide) dX12_crowd_63 rfl ?_
  refine fr_icmp_ge (tgt := 201) dX12_crowd_66 (by decide) rfl (fun hc => ?_) (fun hc => ?_)
  · have h := h.1 hc
    refine fr_iconst (v := (-1)) (by decide) dX12_crowd_201 rfl ?_
    exact fr_iret rfl dX12_crowd_202 h.1 h.2
  · have h := h.2 hc
    refine fr_iconst (v := 0) (by decide) dX12_crowd_69 rfl ?_
    refine fr_istore_n (i := 3) (lv' := [(3, .int 0), (0, rf g o), (1, .int u1), (2, .int u2)]) dX12_crowd_70 rfl (by decide) rfl ?_
    exact fr_sub [1, 2, 3, 0] rfl h
theorem wp_X12_crowd_71 {g : GE} {Z : Zs} {I : Nat → Nat → Int32} {L : Nat → Nat → Int64} {r : Option Value} {M' : Mem} {o : Nat} {u1 : Int32} {u2 : Int32} {u3 : Int32} {o_a : Nat} {o_places : Nat} (k_o : KM Z o 12) (r_o_a : Z.2.1 o 0 = some o_a) (k_o_a : KM Z o_a 13) (r_o_places : Z.2.1 o 41 = some o_places) (k_o_places : KM Z o_places 13) (h : (vp_in 0 (Z.2.2.1 o_a) ∧ (((I o_a (0 : Int32).toNatClampNeg) ≤ u3 → (∃ (v2 : Int32) (I3 : Nat → Nat → Int32) (L4 : Nat → Nat → Int64), Cl g 1 mu_X12_areHome [rf g o, .int u1] (Z, I, L) (some (.int v2)) (Z, I3, L4) ∧ ((v2 = 0 → (∀ y6 : Int32, y6 = (u2 + 1) → Lp_X12_crowd_62 g 6 o u1 y6 (Z, I3, L4) r M')) ∧ (¬ v2 = 0 → (r = some (.int (u2 + 1)) ∧ M' = (Z, I3, L4)))))) ∧ (¬ (I o_a (0 : Int32).toNatClampNeg) ≤ u3 → (vp_in u3 (Z.2.2.1 o_places) ∧ ((0 ≤ (I o_places u3.toNatClampNeg) → (∃ (v8 : Int32), Cl g 1 mu_X12_habitOf [rf g o, .int u3] (Z, I, L) (some (.int v8)) (Z, I, L) ∧ (vp_in u3 (Z.2.2.1 o_places) ∧ (vp_in 2 (Z.2.2.1 o_a) ∧ (¬ (I o_a (2 : Int32).toNatClampNeg) = 0 ∧ (vp_in (50 + (u2 - u2 / (I o_a (2 : Int32).toNatClampNeg) * (I o_a (2 : Int32).toNatClampNeg))) (Z.2.2.1 o_a) ∧ (∃ (v14 : Int32) (I15 : Nat → Nat → Int32) (L16 : Nat → Nat → Int64), Cl g 5 mu_X12_made [rf g o, .int v8, .int (I o_places u3.toNatClampNeg), .int (I o_a (50 + (u2 - u2 / (I o_a (2 : Int32).toNatClampNeg) * (I o_a (2 : Int32).toNatClampNeg))).toNatClampNeg)] (Z, I, L) (some (.int v14)) (Z, I15, L16) ∧ (∀ y18 : Int32, y18 = (v14 - v14 / 200 * 200) → (vp_in u3 (Z.2.2.1 o_places) ∧ (((y18 / 4) = ((I15 o_places u3.toNatClampNeg) / 4) → ((¬ (y18 / 4) = u1 → (vp_in u3 (Z.2.2.1 o_places) ∧ (∀ I21 : Nat → Nat → Int32, I21 = rw1 I15 o_places (upd (I15 o_places) u3.toNatClampNeg y18) → (∀ y22 : Int32, y22 = (u3 + 1) → Lp_X12_crowd_71 g 6 o u1 u2 y22 (Z, I21, L16) r M')))) ∧ ((y18 / 4) = u1 → (vp_in u3 (Z.2.2.1 o_places) ∧ (∀ I24 : Nat → Nat → Int32, I24 = rw1 I15 o_places (upd (I15 o_places) u3.toNatClampNeg ((-1))) → (∀ y25 : Int32, y25 = (u3 + 1) → Lp_X12_crowd_71 g 6 o u1 u2 y25 (Z, I24, L16) r M')))))) ∧ (¬ (y18 / 4) = ((I15 o_places u3.toNatClampNeg) / 4) → (∃ (v26 : Int32), Cl g 1 mu_X12_isTaken [rf g o, .int u3, .int (y18 / 4)] (Z, I15, L16) (some (.int v26)) (Z, I15, L16) ∧ ((¬ v26 = 0 → (∀ y28 : Int32, y28 = (u3 + 1) → Lp_X12_crowd_71 g 6 o u1 u2 y28 (Z, I15, L16) r M')) ∧ (v26 = 0 → ((¬ (y18 / 4) = u1 → (vp_in u3 (Z.2.2.1 o_places) ∧ (∀ I30 : Nat → Nat → Int32, I30 = rw1 I15 o_places (upd (I15 o_places) u3.toNatClampNeg y18) → (∀ y31 : Int32, y31 = (u3 + 1) → Lp_X12_crowd_71 g 6 o u1 u2 y31 (Z, I30, L16) r M')))) ∧ ((y18 / 4) = u1 → (vp_in u3 (Z.2.2.1 o_places) ∧ (∀ I33 : Nat → Nat → Int32, I33 = rw1 I15 o_places (upd (I15 o_places) u3.toNatClampNeg ((-1))) → (∀ y34 : Int32, y34 = (u3 + 1) → Lp_X12_crowd_71 g 6 o u1 u2 y34 (Z, I33, L16) r M'))))))))))))))))))) ∧ (¬ 0 ≤ (I o_places u3.toNatClampNeg) → (∀ y35 : Int32, y35 = (u3 + 1) → Lp_X12_crowd_71 g 6 o u1 u2 y35 (Z, I, L) r M')))))))) : Lp_X12_crowd_71 g 6 o u1 u2 u3 (Z, I, L) r M' := by
  refine fr_iload_n (i := 3) (q := 3) rfl dX12_crowd_71 rfl ?_
  refine fr_aload_n (i := 0) (q := 0) rfl dX12_crowd_72 rfl ?_
  refine fr_getR dX12_crowd_73 rfl fl_X12_7 k_o r_o_a ?_
  refine fr_iconst (v := 0) (by decide) dX12_crowd_76 rfl ?_
  obtain ⟨hz1, h⟩ := h
  refine fr_iald dX12_crowd_77 rfl k_o_a hz1 ?_
  refine fr_icmp_ge (tgt := 183) dX12_crowd_78 (by decide) rfl (fun hc => ?_) (fun hc => ?_)
  · have h := h.1 hc
    refine fr_aload_n (i := 0) (q := 0) rfl dX12_crowd_183 rfl ?_
    refine fr_iload_n (i := 1) (q := 1) rfl dX12_crowd_184 rfl ?_
    obtain ⟨v2, I3, L4, hc5, h⟩ := h
    refine fr_callV2 (ν := mu_X12_areHome) (st2 := [.int v2]) (As := [.int u1]) (st := []) (v := (some (.int v2))) (M1 := (Z, I3, L4)) dX12_crowd_185 rfl ml_X12_365 mo_X12_areHome mi_X12_areHome (ci := 12) rfl rfl k_o (Nat.le_of_ble_eq_true rfl) rfl rfl (Nat.le_of_ble_eq_true rfl) hc5 rfl ?_
    refine fr_if_eq (tgt := 195) dX12_crowd_188 (by decide) rfl (fun hc => ?_) (fun hc => ?_)
    · have h := h.1 hc
      obtain ⟨y6, hy6⟩ : ∃ y : Int32, y = u2 + 1 := ⟨_, rfl⟩
      have h := h y6 hy6
      refine fr_iinc (q := 2) (v := y6) (lv' := [(2, .int y6), (0, rf g o), (1, .int u1), (3, .int u3)]) rfl (by rw [hy6]; rfl) dX12_crowd_195 rfl (by decide) rfl ?_
      refine fr_goto (n := 62) dX12_crowd_198 (by decide) ?_
      exact fr_sub [1, 2, 0] rfl h
    · have h := h.2 hc
      refine fr_iload_n (i := 2) (q := 2) rfl dX12_crowd_191 rfl ?_
      refine fr_iconst (v := 1) (by decide) dX12_crowd_192 rfl ?_
      refine fr_iadd dX12_crowd_193 rfl ?_
      exact fr_iret rfl dX12_crowd_194 h.1 h.2
  · have h := h.2 hc
    refine fr_aload_n (i := 0) (q := 0) rfl dX12_crowd_81 rfl ?_
    refine fr_getR dX12_crowd_82 rfl fl_X12_79 k_o r_o_places ?_
    refine fr_iload_n (i := 3) (q := 3) rfl dX12_crowd_85 rfl ?_
    obtain ⟨hz7, h⟩ := h
    refine fr_iald dX12_crowd_86 rfl k_o_places hz7 ?_
    refine fr_if_ge (tgt := 93) dX12_crowd_87 (by decide) rfl (fun hc => ?_) (fun hc => ?_)
    · have h := h.1 hc
      refine fr_aload_n (i := 0) (q := 0) rfl dX12_crowd_93 rfl ?_
      refine fr_aload_n (i := 0) (q := 0) rfl dX12_crowd_94 rfl ?_
      refine fr_iload_n (i := 3) (q := 3) rfl dX12_crowd_95 rfl ?_
      obtain ⟨v8, hc9, h⟩ := h
      refine fr_callV2 (ν := mu_X12_habitOf) (st2 := [.int v8, rf g o]) (As := [.int u3]) (st := [rf g o]) (v := (some (.int v8))) (M1 := (Z, I, L)) dX12_crowd_96 rfl ml_X12_307 mo_X12_habitOf mi_X12_habitOf (ci := 12) rfl rfl k_o (Nat.le_of_ble_eq_true rfl) rfl rfl (Nat.le_of_ble_eq_true rfl) hc9 rfl ?_
      refine fr_aload_n (i := 0) (q := 0) rfl dX12_crowd_99 rfl ?_
      refine fr_getR dX12_crowd_100 rfl fl_X12_79 k_o r_o_places ?_
      refine fr_iload_n (i := 3) (q := 3) rfl dX12_crowd_103 rfl ?_
      obtain ⟨hz10, h⟩ := h
      refine fr_iald dX12_crowd_104 rfl k_o_places hz10 ?_
      refine fr_aload_n (i := 0) (q := 0) rfl dX12_crowd_105 rfl ?_
      refine fr_getR dX12_crowd_106 rfl fl_X12_7 k_o r_o_a ?_
      refine fr_bipush (v := 50) (by decide) dX12_crowd_109 rfl ?_
      refine fr_iload_n (i := 2) (q := 2) rfl dX12_crowd_111 rfl ?_
      refine fr_aload_n (i := 0) (q := 0) rfl dX12_crowd_112 rfl ?_
      refine fr_getR dX12_crowd_113 rfl fl_X12_7 k_o r_o_a ?_
      refine fr_iconst (v := 2) (by decide) dX12_crowd_116 rfl ?_
      obtain ⟨hz11, h⟩ := h
      refine fr_iald dX12_crowd_117 rfl k_o_a hz11 ?_
      obtain ⟨hz12, h⟩ := h
      refine fr_irem hz12 dX12_crowd_118 rfl ?_
      refine fr_iadd dX12_crowd_119 rfl ?_
      obtain ⟨hz13, h⟩ := h
      refine fr_iald dX12_crowd_120 rfl k_o_a hz13 ?_
      obtain ⟨v14, I15, L16, hc17, h⟩ := h
      refine fr_callV2 (ν := mu_X12_made) (st2 := [.int v14]) (As := [.int v8, .int (I o_places u3.toNatClampNeg), .int (I o_a (50 + (u2 - u2 / (I o_a (2 : Int32).toNatClampNeg) * (I o_a (2 : Int32).toNatClampNeg))).toNatClampNeg)]) (st := []) (v := (some (.int v14))) (M1 := (Z, I15, L16)) dX12_crowd_121 rfl ml_X12_294 mo_X12_made mi_X12_made (ci := 12) rfl rfl k_o (Nat.le_of_ble_eq_true rfl) rfl rfl (Nat.le_of_ble_eq_true rfl) hc17 rfl ?_
      refine fr_sipush (v := 200) (by decide) dX12_crowd_124 rfl ?_
      refine fr_irem (by decide) dX12_crowd_127 rfl ?_
      refine fr_topi (fun y18 hy18 => ?_)
      have h := h y18 hy18
      refine fr_istore (lv' := [(4, .int y18), (0, rf g o), (1, .int u1), (2, .int u2), (3, .int u3)]) dX12_crowd_128 rfl (by decide) rfl ?_
      refine fr_iload (q := 0) rfl dX12_crowd_130 rfl ?_
      refine fr_iconst (v := 4) (by decide) dX12_crowd_132 rfl ?_
      refine fr_idiv (by decide) dX12_crowd_133 rfl ?_
      refine fr_aload_n (i := 0) (q := 1) rfl dX12_crowd_134 rfl ?_
      refine fr_getR dX12_crowd_135 rfl fl_X12_79 k_o r_o_places ?_
      refine fr_iload_n (i := 3) (q := 4) rfl dX12_crowd_138 rfl ?_
      obtain ⟨hz19, h⟩ := h
      refine fr_iald dX12_crowd_139 rfl k_o_places hz19 ?_
      refine fr_iconst (v := 4) (by decide) dX12_crowd_140 rfl ?_
      refine fr_idiv (by decide) dX12_crowd_141 rfl ?_
      refine fr_icmp_eq (tgt := 157) dX12_crowd_142 (by decide) rfl (fun hc => ?_) (fun hc => ?_)
      · have h := h.1 hc
        refine fr_aload_n (i := 0) (q := 1) rfl dX12_crowd_157 rfl ?_
        refine fr_getR dX12_crowd_158 rfl fl_X12_79 k_o r_o_places ?_
        refine fr_iload_n (i := 3) (q := 4) rfl dX12_crowd_161 rfl ?_
        refine fr_iload (q := 0) rfl dX12_crowd_162 rfl ?_
        refine fr_iconst (v := 4) (by decide) dX12_crowd_164 rfl ?_
        refine fr_idiv (by decide) dX12_crowd_165 rfl ?_
        refine fr_iload_n (i := 1) (q := 2) rfl dX12_crowd_166 rfl ?_
        refine fr_icmp_ne (tgt := 174) dX12_crowd_167 (by decide) rfl (fun hc => ?_) (fun hc => ?_)
        · have h := h.1 hc
          refine fr_iload (q := 0) rfl dX12_crowd_174 rfl ?_
          obtain ⟨hz20, h⟩ := h
          refine fr_iast dX12_crowd_176 rfl k_o_places hz20 ?_
          refine fr_memI (fun I21 hI21 => ?_)
          have h := h I21 hI21
          obtain ⟨y22, hy22⟩ : ∃ y : Int32, y = u3 + 1 := ⟨_, rfl⟩
          have h := h y22 hy22
          refine fr_iinc (q := 4) (v := y22) (lv' := [(3, .int y22), (4, .int y18), (0, rf g o), (1, .int u1), (2, .int u2)]) rfl (by rw [hy22]; rfl) dX12_crowd_177 rfl (by decide) rfl ?_
          refine fr_goto (n := 71) dX12_crowd_180 (by decide) ?_
          exact fr_sub [2, 3, 4, 0] rfl h
        · have h := h.2 hc
          refine fr_iconst (v := (-1)) (by decide) dX12_crowd_170 rfl ?_
          refine fr_goto (n := 176) dX12_crowd_171 (by decide) ?_
          obtain ⟨hz23, h⟩ := h
          refine fr_iast dX12_crowd_176 rfl k_o_places hz23 ?_
          refine fr_memI (fun I24 hI24 => ?_)
          have h := h I24 hI24
          obtain ⟨y25, hy25⟩ : ∃ y : Int32, y = u3 + 1 := ⟨_, rfl⟩
          have h := h y25 hy25
          refine fr_iinc (q := 4) (v := y25) (lv' := [(3, .int y25), (4, .int y18), (0, rf g o), (1, .int u1), (2, .int u2)]) rfl (by rw [hy25]; rfl) dX12_crowd_177 rfl (by decide) rfl ?_
          refine fr_goto (n := 71) dX12_crowd_180 (by decide) ?_
          exact fr_sub [2, 3, 4, 0] rfl h
      · have h := h.2 hc
        refine fr_aload_n (i := 0) (q := 1) rfl dX12_crowd_145 rfl ?_
        refine fr_iload_n (i := 3) (q := 4) rfl dX12_crowd_146 rfl ?_
        refine fr_iload (q := 0) rfl dX12_crowd_147 rfl ?_
        refine fr_iconst (v := 4) (by decide) dX12_crowd_149 rfl ?_
        refine fr_idiv (by decide) dX12_crowd_150 rfl ?_
        obtain ⟨v26, hc27, h⟩ := h
        refine fr_callV2 (ν := mu_X12_isTaken) (st2 := [.int v26]) (As := [.int u3, .int (y18 / 4)]) (st := []) (v := (some (.int v26))) (M1 := (Z, I15, L16)) dX12_crowd_151 rfl ml_X12_368 mo_X12_isTaken mi_X12_isTaken (ci := 12) rfl rfl k_o (Nat.le_of_ble_eq_true rfl) rfl rfl (Nat.le_of_ble_eq_true rfl) hc27 rfl ?_
        refine fr_if_ne (tgt := 177) dX12_crowd_154 (by decide) rfl (fun hc => ?_) (fun hc => ?_)
        · have h := h.1 hc
          obtain ⟨y28, hy28⟩ : ∃ y : Int32, y = u3 + 1 := ⟨_, rfl⟩
          have h := h y28 hy28
          refine fr_iinc (q := 4) (v := y28) (lv' := [(3, .int y28), (4, .int y18), (0, rf g o), (1, .int u1), (2, .int u2)]) rfl (by rw [hy28]; rfl) dX12_crowd_177 rfl (by decide) rfl ?_
          refine fr_goto (n := 71) dX12_crowd_180 (by decide) ?_
          exact fr_sub [2, 3, 4, 0] rfl h
        · have h := h.2 hc
          refine fr_aload_n (i := 0) (q := 1) rfl dX12_crowd_157 rfl ?_
          refine fr_getR dX12_crowd_158 rfl fl_X12_79 k_o r_o_places ?_
          refine fr_iload_n (i := 3) (q := 4) rfl dX12_crowd_161 rfl ?_
          refine fr_iload (q := 0) rfl dX12_crowd_162 rfl ?_
          refine fr_iconst (v := 4) (by decide) dX12_crowd_164 rfl ?_
          refine fr_idiv (by decide) dX12_crowd_165 rfl ?_
          refine fr_iload_n (i := 1) (q := 2) rfl dX12_crowd_166 rfl ?_
          refine fr_icmp_ne (tgt := 174) dX12_crowd_167 (by decide) rfl (fun hc => ?_) (fun hc => ?_)
          · have h := h.1 hc
            refine fr_iload (q := 0) rfl dX12_crowd_174 rfl ?_
            obtain ⟨hz29, h⟩ := h
            refine fr_iast dX12_crowd_176 rfl k_o_places hz29 ?_
            refine fr_memI (fun I30 hI30 => ?_)
            have h := h I30 hI30
            obtain ⟨y31, hy31⟩ : ∃ y : Int32, y = u3 + 1 := ⟨_, rfl⟩
            have h := h y31 hy31
            refine fr_iinc (q := 4) (v := y31) (lv' := [(3, .int y31), (4, .int y18), (0, rf g o), (1, .int u1), (2, .int u2)]) rfl (by rw [hy31]; rfl) dX12_crowd_177 rfl (by decide) rfl ?_
            refine fr_goto (n := 71) dX12_crowd_180 (by decide) ?_
            exact fr_sub [2, 3, 4, 0] rfl h
          · have h := h.2 hc
            refine fr_iconst (v := (-1)) (by decide) dX12_crowd_170 rfl ?_
            refine fr_goto (n := 176) dX12_crowd_171 (by decide) ?_
            obtain ⟨hz32, h⟩ := h
            refine fr_iast dX12_crowd_176 rfl k_o_places hz32 ?_
            refine fr_memI (fun I33 hI33 => ?_)
            have h := h I33 hI33
            obtain ⟨y34, hy34⟩ : ∃ y : Int32, y = u3 + 1 := ⟨_, rfl⟩
            have h := h y34 hy34
            refine fr_iinc (q := 4) (v := y34) (lv' := [(3, .int y34), (4, .int y18), (0, rf g o), (1, .int u1), (2, .int u2)]) rfl (by rw [hy34]; rfl) dX12_crowd_177 rfl (by decide) rfl ?_
            refine fr_goto (n := 71) dX12_crowd_180 (by decide) ?_
            exact fr_sub [2, 3, 4, 0] rfl h
    · have h := h.2 hc
      refine fr_goto (n := 177) dX12_crowd_90 (by decide) ?_
      obtain ⟨y35, hy35⟩ : ∃ y : Int32, y = u3 + 1 := ⟨_, rfl⟩
      have h := h y35 hy35
      refine fr_iinc (q := 3) (v := y35) (lv' := [(3, .int y35), (0, rf g o), (1, .int u1), (2, .int u2)]) rfl (by rw [hy35]; rfl) dX12_crowd_177 rfl (by decide) rfl ?_
      refine fr_goto (n := 71) dX12_crowd_180 (by decide) ?_
      exact fr_sub [1, 2, 3, 0] rfl h
theorem cp_X12_stateAt {g : GE} {Z : Zs} {I : Nat → Nat → Int32} {L : Nat → Nat → Int64} {r : Option Value} {M' : Mem} {x0 : Int32} {x1 : Int32} {x2 : Int32}  (h : (r = some (.int (((10000 * x0) + (100 * x1)) + x2)) ∧ M' = (Z, I, L))) : Cl g 1 mu_X12_stateAt [.int x0, .int x1, .int x2] (Z, I, L) r M' := by
  refine cl_of (lv := [(0, .int x0), (1, .int x1), (2, .int x2)]) (by decide) (Nat.le_of_ble_eq_true rfl) rfl ?_
  refine fr_sipush (v := 10000) (by decide) dX12_stateAt_0 rfl ?_
  refine fr_iload_n (i := 0) (q := 0) rfl dX12_stateAt_3 rfl ?_
  refine fr_imul dX12_stateAt_4 rfl ?_
  refine fr_bipush (v := 100) (by decide) dX12_stateAt_5 rfl ?_
  refine fr_iload_n (i := 1) (q := 1) rfl dX12_stateAt_7 rfl ?_
  refine fr_imul dX12_stateAt_8 rfl ?_
  refine fr_iadd dX12_stateAt_9 rfl ?_
  refine fr_iload_n (i := 2) (q := 2) rfl dX12_stateAt_10 rfl ?_
  refine fr_iadd dX12_stateAt_11 rfl ?_
  exact fr_iret rfl dX12_stateAt_12 h.1 h.2
theorem cp_X12_turnsBehind {g : GE} {Z : Zs} {I : Nat → Nat → Int32} {L : Nat → Nat → Int64} {r : Option Value} {M' : Mem} {o : Nat} {x1 : Int32} {x2 : Int32} {x3 : Int32} {x4 : Int32} {x5 : Int32} {o_turns : Nat} (k_o : KM Z o 12) (r_o_turns : Z.2.1 o 42 = some o_turns) (k_o_turns : KM Z o_turns 13) (h : ((¬ x1 = 0 → (∃ (v1 : Int32), Cl g 2 mu_X12_then [rf g o, .int x2, .int x4, .int x5] (Z, I, L) (some (.int v1)) (Z, I, L) ∧ (∃ (v3 : Int32), Cl g 1 mu_X12_stateAt [.int 0, .int x3, .int v1] (Z, I, L) (some (.int v3)) (Z, I, L) ∧ (vp_in v3 (Z.2.2.1 o_turns) ∧ (r = some (.int (I o_turns v3.toNatClampNeg)) ∧ M' = (Z, I, L)))))) ∧ (x1 = 0 → (∃ (v6 : Int32), Cl g 2 mu_X12_then [rf g o, .int x2, .int x3, .int x5] (Z, I, L) (some (.int v6)) (Z, I, L) ∧ (∃ (v8 : Int32), Cl g 1 mu_X12_stateAt [.int 1, .int v6, .int x4] (Z, I, L) (some (.int v8)) (Z, I, L) ∧ (vp_in v8 (Z.2.2.1 o_turns) ∧ (r = some (.int (I o_turns v8.toNatClampNeg)) ∧ M' = (Z, I, L)))))))) : Cl g 3 mu_X12_turnsBehind [rf g o, .int x1, .int x2, .int x3, .int x4, .int x5] (Z, I, L) r M' := by
  refine cl_of (lv := [(0, rf g o), (1, .int x1), (2, .int x2), (3, .int x3), (4, .int x4), (5, .int x5)]) (by decide) (Nat.le_of_ble_eq_true rfl) rfl ?_
  refine fr_iload_n (i := 1) (q := 1) rfl dX12_turnsBehind_0 rfl ?_
  refine fr_if_ne (tgt := 26) dX12_turnsBehind_1 (by decide) rfl (fun hc => ?_) (fun hc => ?_)
  · have h := h.1 hc
    refine fr_aload_n (i := 0) (q := 0) rfl dX12_turnsBehind_26 rfl ?_
    refine fr_getR dX12_turnsBehind_27 rfl fl_X12_82 k_o r_o_turns ?_
    refine fr_iconst (v := 0) (by decide) dX12_turnsBehind_30 rfl ?_
    refine fr_iload_n (i := 3) (q := 3) rfl dX12_turnsBehind_31 rfl ?_
    refine fr_aload_n (i := 0) (q := 0) rfl dX12_turnsBehind_32 rfl ?_
    refine fr_iload_n (i := 2) (q := 2) rfl dX12_turnsBehind_33 rfl ?_
    refine fr_iload (q := 4) rfl dX12_turnsBehind_34 rfl ?_
    refine fr_iload (q := 5) rfl dX12_turnsBehind_36 rfl ?_
    obtain ⟨v1, hc2, h⟩ := h
    refine fr_callV2 (ν := mu_X12_then) (st2 := [.int v1, .int x3, .int 0, rf g o_turns]) (As := [.int x2, .int x4, .int x5]) (st := [.int x3, .int 0, rf g o_turns]) (v := (some (.int v1))) (M1 := (Z, I, L)) dX12_turnsBehind_38 rfl ml_X12_319 mo_X12_then mi_X12_then (ci := 12) rfl rfl k_o (Nat.le_of_ble_eq_true rfl) rfl rfl (Nat.le_of_ble_eq_true rfl) hc2 rfl ?_
    obtain ⟨v3, hc4, h⟩ := h
    refine fr_callS2 (ν := mu_X12_stateAt) (st2 := [.int v3, rf g o_turns]) (As := [.int 0, .int x3, .int v1]) (st := [rf g o_turns]) (v := (some (.int v3))) (M1 := (Z, I, L)) dX12_turnsBehind_41 rfl ml_X12_371 mo_X12_stateAt ms_X12_stateAt (Nat.le_of_ble_eq_true rfl) rfl rfl (Nat.le_of_ble_eq_true rfl) hc4 rfl ?_
    obtain ⟨hz5, h⟩ := h
    refine fr_iald dX12_turnsBehind_44 rfl k_o_turns hz5 ?_
    exact fr_iret rfl dX12_turnsBehind_45 h.1 h.2
  · have h := h.2 hc
    refine fr_aload_n (i := 0) (q := 0) rfl dX12_turnsBehind_4 rfl ?_
    refine fr_getR dX12_turnsBehind_5 rfl fl_X12_82 k_o r_o_turns ?_
    refine fr_iconst (v := 1) (by decide) dX12_turnsBehind_8 rfl ?_
    refine fr_aload_n (i := 0) (q := 0) rfl dX12_turnsBehind_9 rfl ?_
    refine fr_iload_n (i := 2) (q := 2) rfl dX12_turnsBehind_10 rfl ?_
    refine fr_iload_n (i := 3) (q := 3) rfl dX12_turnsBehind_11 rfl ?_
    refine fr_iload (q := 5) rfl dX12_turnsBehind_12 rfl ?_
    obtain ⟨v6, hc7, h⟩ := h
    refine fr_callV2 (ν := mu_X12_then) (st2 := [.int v6, .int 1, rf g o_turns]) (As := [.int x2, .int x3, .int x5]) (st := [.int 1, rf g o_turns]) (v := (some (.int v6))) (M1 := (Z, I, L)) dX12_turnsBehind_14 rfl ml_X12_319 mo_X12_then mi_X12_then (ci := 12) rfl rfl k_o (Nat.le_of_ble_eq_true rfl) rfl rfl (Nat.le_of_ble_eq_true rfl) hc7 rfl ?_
    refine fr_iload (q := 4) rfl dX12_turnsBehind_17 rfl ?_
    obtain ⟨v8, hc9, h⟩ := h
    refine fr_callS2 (ν := mu_X12_stateAt) (st2 := [.int v8, rf g o_turns]) (As := [.int 1, .int v6, .int x4]) (st := [rf g o_turns]) (v := (some (.int v8))) (M1 := (Z, I, L)) dX12_turnsBehind_19 rfl ml_X12_371 mo_X12_stateAt ms_X12_stateAt (Nat.le_of_ble_eq_true rfl) rfl rfl (Nat.le_of_ble_eq_true rfl) hc9 rfl ?_
    obtain ⟨hz10, h⟩ := h
    refine fr_iald dX12_turnsBehind_22 rfl k_o_turns hz10 ?_
    refine fr_goto (n := 45) dX12_turnsBehind_23 (by decide) ?_
    exact fr_iret rfl dX12_turnsBehind_45 h.1 h.2
abbrev Lp_X12_isSettled_9 (g : GE) (d : Nat) (o : Nat) (u1 : Int32) (u2 : Int32) (u3 : Int32) (u4 : Int32) (u5 : Int32) (u6 : Int32) (u7 : Int32) (u8 : Int32) (M : Mem) (r : Option Value) (M' : Mem) : Prop := Fr g d mu_X12_isSettled 9 [(0, rf g o), (1, .int u1), (2, .int u2), (3, .int u3), (4, .int u4), (5, .int u5), (6, .int u6), (7, .int u7), (8, .int u8)] [] M r M'
theorem cp_X12_isSettled {g : GE} {Z : Zs} {I : Nat → Nat → Int32} {L : Nat → Nat → Int64} {r : Option Value} {M' : Mem} {o : Nat} {x1 : Int32} {x2 : Int32} {x3 : Int32} {x4 : Int32} {x5 : Int32} (k_o : KM Z o 12) (h : Lp_X12_isSettled_9 g 4 o x1 x2 x3 x4 x5 0 1 0 (Z, I, L) r M') : Cl g 4 mu_X12_isSettled [rf g o, .int x1, .int x2, .int x3, .int x4, .int x5] (Z, I, L) r M' := by
  refine cl_of (lv := [(0, rf g o), (1, .int x1), (2, .int x2), (3, .int x3), (4, .int x4), (5, .int x5)]) (by decide) (Nat.le_of_ble_eq_true rfl) rfl ?_
  refine fr_iconst (v := 0) (by decide) dX12_isSettled_0 rfl ?_
  refine fr_istore (lv' := [(6, .int 0), (0, rf g o), (1, .int x1), (2, .int x2), (3, .int x3), (4, .int x4), (5, .int x5)]) dX12_isSettled_1 rfl (by decide) rfl ?_
  refine fr_iconst (v := 1) (by decide) dX12_isSettled_3 rfl ?_
  refine fr_istore (lv' := [(7, .int 1), (6, .int 0), (0, rf g o), (1, .int x1), (2, .int x2), (3, .int x3), (4, .int x4), (5, .int x5)]) dX12_isSettled_4 rfl (by decide) rfl ?_
  refine fr_iconst (v := 0) (by decide) dX12_isSettled_6 rfl ?_
  refine fr_istore (lv' := [(8, .int 0), (7, .int 1), (6, .int 0), (0, rf g o), (1, .int x1), (2, .int x2), (3, .int x3), (4, .int x4), (5, .int x5)]) dX12_isSettled_7 rfl (by decide) rfl ?_
  exact fr_sub [3, 4, 5, 6, 7, 8, 2, 1, 0] rfl h
abbrev Lp_X12_isSettled_62 (g : GE) (d : Nat) (o : Nat) (u1 : Int32) (u2 : Int32) (u3 : Int32) (u4 : Int32) (u5 : Int32) (u7 : Int32) (u8 : Int32) (u10 : Int32) (s0 : Int32) (M : Mem) (r : Option Value) (M' : Mem) : Prop := Fr g d mu_X12_isSettled 62 [(0, rf g o), (1, .int u1), (2, .int u2), (3, .int u3), (4, .int u4), (5, .int u5), (7, .int u7), (8, .int u8), (10, .int u10)] [.int s0] M r M'
theorem wp_X12_isSettled_9 {g : GE} {Z : Zs} {I : Nat → Nat → Int32} {L : Nat → Nat → Int64} {r : Option Value} {M' : Mem} {o : Nat} {u1 : Int32} {u2 : Int32} {u3 : Int32} {u4 : Int32} {u5 : Int32} {u6 : Int32} {u7 : Int32} {u8 : Int32} (k_o : KM Z o 12) (h : ((4 ≤ u8 → ((¬ u1 = 0 → ((u7 = 0 ∨ u7 = 1) ∧ r = some (.int u7) ∧ M' = (Z, I, L))) ∧ (u1 = 0 → ((u6 = 0 ∨ u6 = 1) ∧ r = some (.int u6) ∧ M' = (Z, I, L))))) ∧ (¬ 4 ≤ u8 → (∃ (v1 : Int32), Cl g 3 mu_X12_turnsBehind [rf g o, .int u1, .int u2, .int u3, .int u4, .int u8] (Z, I, L) (some (.int v1)) (Z, I, L) ∧ ((v1 < 0 → ((¬ u6 = 0 → Lp_X12_isSettled_62 g 4 o u1 u2 u3 u4 u5 u7 u8 0 1 (Z, I, L) r M') ∧ (u6 = 0 → Lp_X12_isSettled_62 g 4 o u1 u2 u3 u4 u5 u7 u8 0 0 (Z, I, L) r M'))) ∧ (¬ v1 < 0 → ((u5 ≤ v1 → ((¬ u6 = 0 → Lp_X12_isSettled_62 g 4 o u1 u2 u3 u4 u5 u7 u8 0 1 (Z, I, L) r M') ∧ (u6 = 0 → Lp_X12_isSettled_62 g 4 o u1 u2 u3 u4 u5 u7 u8 0 0 (Z, I, L) r M'))) ∧ (¬ u5 ≤ v1 → ((¬ u6 = 0 → Lp_X12_isSettled_62 g 4 o u1 u2 u3 u4 u5 u7 u8 1 1 (Z, I, L) r M') ∧ (u6 = 0 → Lp_X12_isSettled_62 g 4 o u1 u2 u3 u4 u5 u7 u8 1 1 (Z, I, L) r M')))))))))) : Lp_X12_isSettled_9 g 4 o u1 u2 u3 u4 u5 u6 u7 u8 (Z, I, L) r M' := by
  refine fr_iload (q := 8) rfl dX12_isSettled_9 rfl ?_
  refine fr_iconst (v := 4) (by decide) dX12_isSettled_11 rfl ?_
  refine fr_icmp_ge (tgt := 87) dX12_isSettled_12 (by decide) rfl (fun hc => ?_) (fun hc => ?_)
  · have h := h.1 hc
    refine fr_iload_n (i := 1) (q := 1) rfl dX12_isSettled_87 rfl ?_
    refine fr_if_ne (tgt := 96) dX12_isSettled_88 (by decide) rfl (fun hc => ?_) (fun hc => ?_)
    · have h := h.1 hc
      refine fr_iload (q := 7) rfl dX12_isSettled_96 rfl ?_
      exact fr_zret h.1 rfl dX12_isSettled_98 h.2.1 h.2.2
    · have h := h.2 hc
      refine fr_iload (q := 6) rfl dX12_isSettled_91 rfl ?_
      refine fr_goto (n := 98) dX12_isSettled_93 (by decide) ?_
      exact fr_zret h.1 rfl dX12_isSettled_98 h.2.1 h.2.2
  · have h := h.2 hc
    refine fr_aload_n (i := 0) (q := 0) rfl dX12_isSettled_15 rfl ?_
    refine fr_iload_n (i := 1) (q := 1) rfl dX12_isSettled_16 rfl ?_
    refine fr_iload_n (i := 2) (q := 2) rfl dX12_isSettled_17 rfl ?_
    refine fr_iload_n (i := 3) (q := 3) rfl dX12_isSettled_18 rfl ?_
    refine fr_iload (q := 4) rfl dX12_isSettled_19 rfl ?_
    refine fr_iload (q := 8) rfl dX12_isSettled_21 rfl ?_
    obtain ⟨v1, hc2, h⟩ := h
    refine fr_callV2 (ν := mu_X12_turnsBehind) (st2 := [.int v1]) (As := [.int u1, .int u2, .int u3, .int u4, .int u8]) (st := []) (v := (some (.int v1))) (M1 := (Z, I, L)) dX12_isSettled_23 rfl ml_X12_374 mo_X12_turnsBehind mi_X12_turnsBehind (ci := 12) rfl rfl k_o (Nat.le_of_ble_eq_true rfl) rfl rfl (Nat.le_of_ble_eq_true rfl) hc2 rfl ?_
    refine fr_istore (lv' := [(9, .int v1), (0, rf g o), (1, .int u1), (2, .int u2), (3, .int u3), (4, .int u4), (5, .int u5), (6, .int u6), (7, .int u7), (8, .int u8)]) dX12_isSettled_26 rfl (by decide) rfl ?_
    refine fr_iload (q := 0) rfl dX12_isSettled_28 rfl ?_
    refine fr_if_lt (tgt := 44) dX12_isSettled_30 (by decide) rfl (fun hc => ?_) (fun hc => ?_)
    · have h := h.1 hc
      refine fr_iconst (v := 0) (by decide) dX12_isSettled_44 rfl ?_
      refine fr_istore (lv' := [(10, .int 0), (9, .int v1), (0, rf g o), (1, .int u1), (2, .int u2), (3, .int u3), (4, .int u4), (5, .int u5), (6, .int u6), (7, .int u7), (8, .int u8)]) dX12_isSettled_45 rfl (by decide) rfl ?_
      refine fr_iload (q := 8) rfl dX12_isSettled_47 rfl ?_
      refine fr_if_ne (tgt := 57) dX12_isSettled_49 (by decide) rfl (fun hc => ?_) (fun hc => ?_)
      · have h := h.1 hc
        refine fr_iconst (v := 1) (by decide) dX12_isSettled_57 rfl ?_
        refine fr_goto (n := 62) dX12_isSettled_58 (by decide) ?_
        exact fr_sub [2, 3, 4, 5, 6, 7, 9, 10, 0] rfl h
      · have h := h.2 hc
        refine fr_iload (q := 0) rfl dX12_isSettled_52 rfl ?_
        refine fr_if_eq (tgt := 61) dX12_isSettled_54 (by decide) rfl (fun _ => ?_) (fun hc => absurd hc (by decide))
        refine fr_iconst (v := 0) (by decide) dX12_isSettled_61 rfl ?_
        exact fr_sub [2, 3, 4, 5, 6, 7, 9, 10, 0] rfl h
    · have h := h.2 hc
      refine fr_iload (q := 0) rfl dX12_isSettled_33 rfl ?_
      refine fr_iload (q := 6) rfl dX12_isSettled_35 rfl ?_
      refine fr_icmp_ge (tgt := 44) dX12_isSettled_37 (by decide) rfl (fun hc => ?_) (fun hc => ?_)
      · have h := h.1 hc
        refine fr_iconst (v := 0) (by decide) dX12_isSettled_44 rfl ?_
        refine fr_istore (lv' := [(10, .int 0), (9, .int v1), (0, rf g o), (1, .int u1), (2, .int u2), (3, .int u3), (4, .int u4), (5, .int u5), (6, .int u6), (7, .int u7), (8, .int u8)]) dX12_isSettled_45 rfl (by decide) rfl ?_
        refine fr_iload (q := 8) rfl dX12_isSettled_47 rfl ?_
        refine fr_if_ne (tgt := 57) dX12_isSettled_49 (by decide) rfl (fun hc => ?_) (fun hc => ?_)
        · have h := h.1 hc
          refine fr_iconst (v := 1) (by decide) dX12_isSettled_57 rfl ?_
          refine fr_goto (n := 62) dX12_isSettled_58 (by decide) ?_
          exact fr_sub [2, 3, 4, 5, 6, 7, 9, 10, 0] rfl h
        · have h := h.2 hc
          refine fr_iload (q := 0) rfl dX12_isSettled_52 rfl ?_
          refine fr_if_eq (tgt := 61) dX12_isSettled_54 (by decide) rfl (fun _ => ?_) (fun hc => absurd hc (by decide))
          refine fr_iconst (v := 0) (by decide) dX12_isSettled_61 rfl ?_
          exact fr_sub [2, 3, 4, 5, 6, 7, 9, 10, 0] rfl h
      · have h := h.2 hc
        refine fr_iconst (v := 1) (by decide) dX12_isSettled_40 rfl ?_
        refine fr_goto (n := 45) dX12_isSettled_41 (by decide) ?_
        refine fr_istore (lv' := [(10, .int 1), (9, .int v1), (0, rf g o), (1, .int u1), (2, .int u2), (3, .int u3), (4, .int u4), (5, .int u5), (6, .int u6), (7, .int u7), (8, .int u8)]) dX12_isSettled_45 rfl (by decide) rfl ?_
        refine fr_iload (q := 8) rfl dX12_isSettled_47 rfl ?_
        refine fr_if_ne (tgt := 57) dX12_isSettled_49 (by decide) rfl (fun hc => ?_) (fun hc => ?_)
        · have h := h.1 hc
          refine fr_iconst (v := 1) (by decide) dX12_isSettled_57 rfl ?_
          refine fr_goto (n := 62) dX12_isSettled_58 (by decide) ?_
          exact fr_sub [2, 3, 4, 5, 6, 7, 9, 10, 0] rfl h
        · have h := h.2 hc
          refine fr_iload (q := 0) rfl dX12_isSettled_52 rfl ?_
          refine fr_if_eq (tgt := 61) dX12_isSettled_54 (by decide) rfl (fun hc => absurd hc (by decide)) (fun _ => ?_)
          refine fr_iconst (v := 1) (by decide) dX12_isSettled_57 rfl ?_
          refine fr_goto (n := 62) dX12_isSettled_58 (by decide) ?_
          exact fr_sub [2, 3, 4, 5, 6, 7, 9, 10, 0] rfl h
theorem wp_X12_isSettled_62 {g : GE} {Z : Zs} {I : Nat → Nat → Int32} {L : Nat → Nat → Int64} {r : Option Value} {M' : Mem} {o : Nat} {u1 : Int32} {u2 : Int32} {u3 : Int32} {u4 : Int32} {u5 : Int32} {u7 : Int32} {u8 : Int32} {u10 : Int32} {s0 : Int32} (k_o : KM Z o 12) (h : ((u7 = 0 → (∀ y1 : Int32, y1 = (u8 + 1) → Lp_X12_isSettled_9 g 4 o u1 u2 u3 u4 u5 s0 0 y1 (Z, I, L) r M')) ∧ (¬ u7 = 0 → ((u10 = 0 → (∀ y2 : Int32, y2 = (u8 + 1) → Lp_X12_isSettled_9 g 4 o u1 u2 u3 u4 u5 s0 0 y2 (Z, I, L) r M')) ∧ (¬ u10 = 0 → (∀ y3 : Int32, y3 = (u8 + 1) → Lp_X12_isSettled_9 g 4 o u1 u2 u3 u4 u5 s0 1 y3 (Z, I, L) r M')))))) : Lp_X12_isSettled_62 g 4 o u1 u2 u3 u4 u5 u7 u8 u10 s0 (Z, I, L) r M' := by
  refine fr_istore (lv' := [(6, .int s0), (0, rf g o), (1, .int u1), (2, .int u2), (3, .int u3), (4, .int u4), (5, .int u5), (7, .int u7), (8, .int u8), (10, .int u10)]) dX12_isSettled_62 rfl (by decide) rfl ?_
  refine fr_iload (q := 7) rfl dX12_isSettled_64 rfl ?_
  refine fr_if_eq (tgt := 78) dX12_isSettled_66 (by decide) rfl (fun hc => ?_) (fun hc => ?_)
  · have h := h.1 hc
    refine fr_iconst (v := 0) (by decide) dX12_isSettled_78 rfl ?_
    refine fr_istore (lv' := [(7, .int 0), (6, .int s0), (0, rf g o), (1, .int u1), (2, .int u2), (3, .int u3), (4, .int u4), (5, .int u5), (8, .int u8), (10, .int u10)]) dX12_isSettled_79 rfl (by decide) rfl ?_
    obtain ⟨y1, hy1⟩ : ∃ y : Int32, y = u8 + 1 := ⟨_, rfl⟩
    have h := h y1 hy1
    refine fr_iinc (q := 8) (v := y1) (lv' := [(8, .int y1), (7, .int 0), (6, .int s0), (0, rf g o), (1, .int u1), (2, .int u2), (3, .int u3), (4, .int u4), (5, .int u5), (10, .int u10)]) rfl (by rw [hy1]; rfl) dX12_isSettled_81 rfl (by decide) rfl ?_
    refine fr_goto (n := 9) dX12_isSettled_84 (by decide) ?_
    exact fr_sub [3, 4, 5, 6, 7, 8, 2, 1, 0] rfl h
  · have h := h.2 hc
    refine fr_iload (q := 9) rfl dX12_isSettled_69 rfl ?_
    refine fr_if_eq (tgt := 78) dX12_isSettled_71 (by decide) rfl (fun hc => ?_) (fun hc => ?_)
    · have h := h.1 hc
      refine fr_iconst (v := 0) (by decide) dX12_isSettled_78 rfl ?_
      refine fr_istore (lv' := [(7, .int 0), (6, .int s0), (0, rf g o), (1, .int u1), (2, .int u2), (3, .int u3), (4, .int u4), (5, .int u5), (8, .int u8), (10, .int u10)]) dX12_isSettled_79 rfl (by decide) rfl ?_
      obtain ⟨y2, hy2⟩ : ∃ y : Int32, y = u8 + 1 := ⟨_, rfl⟩
      have h := h y2 hy2
      refine fr_iinc (q := 8) (v := y2) (lv' := [(8, .int y2), (7, .int 0), (6, .int s0), (0, rf g o), (1, .int u1), (2, .int u2), (3, .int u3), (4, .int u4), (5, .int u5), (10, .int u10)]) rfl (by rw [hy2]; rfl) dX12_isSettled_81 rfl (by decide) rfl ?_
      refine fr_goto (n := 9) dX12_isSettled_84 (by decide) ?_
      exact fr_sub [3, 4, 5, 6, 7, 8, 2, 1, 0] rfl h
    · have h := h.2 hc
      refine fr_iconst (v := 1) (by decide) dX12_isSettled_74 rfl ?_
      refine fr_goto (n := 79) dX12_isSettled_75 (by decide) ?_
      refine fr_istore (lv' := [(7, .int 1), (6, .int s0), (0, rf g o), (1, .int u1), (2, .int u2), (3, .int u3), (4, .int u4), (5, .int u5), (8, .int u8), (10, .int u10)]) dX12_isSettled_79 rfl (by decide) rfl ?_
      obtain ⟨y3, hy3⟩ : ∃ y : Int32, y = u8 + 1 := ⟨_, rfl⟩
      have h := h y3 hy3
      refine fr_iinc (q := 8) (v := y3) (lv' := [(8, .int y3), (7, .int 1), (6, .int s0), (0, rf g o), (1, .int u1), (2, .int u2), (3, .int u3), (4, .int u4), (5, .int u5), (10, .int u10)]) rfl (by rw [hy3]; rfl) dX12_isSettled_81 rfl (by decide) rfl ?_
      refine fr_goto (n := 9) dX12_isSettled_84 (by decide) ?_
      exact fr_sub [3, 4, 5, 6, 7, 8, 2, 1, 0] rfl h
abbrev Lp_X12_settle__25 (g : GE) (d : Nat) (o : Nat) (u1 : Int32) (u2 : Int32) (u3 : Int32) (u4 : Int32) (M : Mem) (r : Option Value) (M' : Mem) : Prop := Fr g d mu_X12_settle_ 25 [(0, rf g o), (1, .int u1), (2, .int u2), (3, .int u3), (4, .int u4)] [] M r M'
theorem cp_X12_settle_ {g : GE} {Z : Zs} {I : Nat → Nat → Int32} {L : Nat → Nat → Int64} {r : Option Value} {M' : Mem} {o : Nat} {x1 : Int32} {x2 : Int32} (k_o : KM Z o 12) (h : (∃ (I1 : Nat → Nat → Int32) (L2 : Nat → Nat → Int64), Cl g 6 mu_X12_lay [rf g o, .int x1] (Z, I, L) none (Z, I1, L2) ∧ (∃ (I4 : Nat → Nat → Int32) (L5 : Nat → Nat → Int64), Cl g 6 mu_X12_lay [rf g o, .int x2] (Z, I1, L2) none (Z, I4, L5) ∧ (∀ y7 : Int32, y7 = ((4 * (I4 o 2)) * (I4 o 3)) → Lp_X12_settle__25 g 7 o x1 x2 y7 0 (Z, I4, L5) r M')))) : Cl g 7 mu_X12_settle_ [rf g o, .int x1, .int x2] (Z, I, L) r M' := by
  refine cl_of (lv := [(0, rf g o), (1, .int x1), (2, .int x2)]) (by decide) (Nat.le_of_ble_eq_true rfl) rfl ?_
  refine fr_aload_n (i := 0) (q := 0) rfl dX12_settle__0 rfl ?_
  refine fr_iload_n (i := 1) (q := 1) rfl dX12_settle__1 rfl ?_
  obtain ⟨I1, L2, hc3, h⟩ := h
  refine fr_callV2 (ν := mu_X12_lay) (st2 := []) (As := [.int x1]) (st := []) (v := none) (M1 := (Z, I1, L2)) dX12_settle__2 rfl ml_X12_322 mo_X12_lay mi_X12_lay (ci := 12) rfl rfl k_o (Nat.le_of_ble_eq_true rfl) rfl rfl (Nat.le_of_ble_eq_true rfl) hc3 rfl ?_
  refine fr_aload_n (i := 0) (q := 0) rfl dX12_settle__5 rfl ?_
  refine fr_iload_n (i := 2) (q := 2) rfl dX12_settle__6 rfl ?_
  obtain ⟨I4, L5, hc6, h⟩ := h
  refine fr_callV2 (ν := mu_X12_lay) (st2 := []) (As := [.int x2]) (st := []) (v := none) (M1 := (Z, I4, L5)) dX12_settle__7 rfl ml_X12_322 mo_X12_lay mi_X12_lay (ci := 12) rfl rfl k_o (Nat.le_of_ble_eq_true rfl) rfl rfl (Nat.le_of_ble_eq_true rfl) hc6 rfl ?_
  refine fr_iconst (v := 4) (by decide) dX12_settle__10 rfl ?_
  refine fr_aload_n (i := 0) (q := 0) rfl dX12_settle__11 rfl ?_
  refine fr_getI dX12_settle__12 rfl fl_X12_85 k_o ?_
  refine fr_imul dX12_settle__15 rfl ?_
  refine fr_aload_n (i := 0) (q := 0) rfl dX12_settle__16 rfl ?_
  refine fr_getI dX12_settle__17 rfl fl_X12_88 k_o ?_
  refine fr_imul dX12_settle__20 rfl ?_
  refine fr_topi (fun y7 hy7 => ?_)
  have h := h y7 hy7
  refine fr_istore_n (i := 3) (lv' := [(3, .int y7), (0, rf g o), (1, .int x1), (2, .int x2)]) dX12_settle__21 rfl (by decide) rfl ?_
  refine fr_iconst (v := 0) (by decide) dX12_settle__22 rfl ?_
  refine fr_istore (lv' := [(4, .int 0), (3, .int y7), (0, rf g o), (1, .int x1), (2, .int x2)]) dX12_settle__23 rfl (by decide) rfl ?_
  exact fr_sub [2, 3, 4, 1, 0] rfl h
abbrev Lp_X12_settle__78 (g : GE) (d : Nat) (o : Nat) (u1 : Int32) (u2 : Int32) (u3 : Int32) (u4 : Int32) (u5 : Int32) (M : Mem) (r : Option Value) (M' : Mem) : Prop := Fr g d mu_X12_settle_ 78 [(0, rf g o), (1, .int u1), (2, .int u2), (3, .int u3), (4, .int u4), (5, .int u5)] [] M r M'
theorem wp_X12_settle__25 {g : GE} {Z : Zs} {I : Nat → Nat → Int32} {L : Nat → Nat → Int64} {r : Option Value} {M' : Mem} {o : Nat} {u1 : Int32} {u2 : Int32} {u3 : Int32} {u4 : Int32} {o_turns : Nat} (k_o : KM Z o 12) (r_o_turns : Z.2.1 o 42 = some o_turns) (k_o_turns : KM Z o_turns 13) (h : ((20000 ≤ u4 → Lp_X12_settle__78 g 7 o u1 u2 u3 1 1 (Z, I, L) r M') ∧ (¬ 20000 ≤ u4 → ((¬ (((u4 - u4 / 10000 * 10000) / 100) / 4) = ((u4 - u4 / 100 * 100) / 4) → (vp_in u4 (Z.2.2.1 o_turns) ∧ (∀ I2 : Nat → Nat → Int32, I2 = rw1 I o_turns (upd (I o_turns) u4.toNatClampNeg ((-1))) → (∀ y3 : Int32, y3 = (u4 + 1) → Lp_X12_settle__25 g 7 o u1 u2 u3 y3 (Z, I2, L) r M')))) ∧ ((((u4 - u4 / 10000 * 10000) / 100) / 4) = ((u4 - u4 / 100 * 100) / 4) → (vp_in u4 (Z.2.2.1 o_turns) ∧ (∀ I5 : Nat → Nat → Int32, I5 = rw1 I o_turns (upd (I o_turns) u4.toNatClampNeg 0) → (∀ y6 : Int32, y6 = (u4 + 1) → Lp_X12_settle__25 g 7 o u1 u2 u3 y6 (Z, I5, L) r M')))))))) : Lp_X12_settle__25 g 7 o u1 u2 u3 u4 (Z, I, L) r M' := by
  refine fr_iload (q := 4) rfl dX12_settle__25 rfl ?_
  refine fr_sipush (v := 20000) (by decide) dX12_settle__27 rfl ?_
  refine fr_icmp_ge (tgt := 72) dX12_settle__30 (by decide) rfl (fun hc => ?_) (fun hc => ?_)
  · have h := h.1 hc
    refine fr_iconst (v := 1) (by decide) dX12_settle__72 rfl ?_
    refine fr_istore (lv' := [(4, .int 1), (0, rf g o), (1, .int u1), (2, .int u2), (3, .int u3)]) dX12_settle__73 rfl (by decide) rfl ?_
    refine fr_iconst (v := 1) (by decide) dX12_settle__75 rfl ?_
    refine fr_istore (lv' := [(5, .int 1), (4, .int 1), (0, rf g o), (1, .int u1), (2, .int u2), (3, .int u3)]) dX12_settle__76 rfl (by decide) rfl ?_
    exact fr_sub [2, 3, 4, 5, 1, 0] rfl h
  · have h := h.2 hc
    refine fr_aload_n (i := 0) (q := 0) rfl dX12_settle__33 rfl ?_
    refine fr_getR dX12_settle__34 rfl fl_X12_82 k_o r_o_turns ?_
    refine fr_iload (q := 4) rfl dX12_settle__37 rfl ?_
    refine fr_iload (q := 4) rfl dX12_settle__39 rfl ?_
    refine fr_sipush (v := 10000) (by decide) dX12_settle__41 rfl ?_
    refine fr_irem (by decide) dX12_settle__44 rfl ?_
    refine fr_bipush (v := 100) (by decide) dX12_settle__45 rfl ?_
    refine fr_idiv (by decide) dX12_settle__47 rfl ?_
    refine fr_iconst (v := 4) (by decide) dX12_settle__48 rfl ?_
    refine fr_idiv (by decide) dX12_settle__49 rfl ?_
    refine fr_iload (q := 4) rfl dX12_settle__50 rfl ?_
    refine fr_bipush (v := 100) (by decide) dX12_settle__52 rfl ?_
    refine fr_irem (by decide) dX12_settle__54 rfl ?_
    refine fr_iconst (v := 4) (by decide) dX12_settle__55 rfl ?_
    refine fr_idiv (by decide) dX12_settle__56 rfl ?_
    refine fr_icmp_ne (tgt := 64) dX12_settle__57 (by decide) rfl (fun hc => ?_) (fun hc => ?_)
    · have h := h.1 hc
      refine fr_iconst (v := (-1)) (by decide) dX12_settle__64 rfl ?_
      obtain ⟨hz1, h⟩ := h
      refine fr_iast dX12_settle__65 rfl k_o_turns hz1 ?_
      refine fr_memI (fun I2 hI2 => ?_)
      have h := h I2 hI2
      obtain ⟨y3, hy3⟩ : ∃ y : Int32, y = u4 + 1 := ⟨_, rfl⟩
      have h := h y3 hy3
      refine fr_iinc (q := 4) (v := y3) (lv' := [(4, .int y3), (0, rf g o), (1, .int u1), (2, .int u2), (3, .int u3)]) rfl (by rw [hy3]; rfl) dX12_settle__66 rfl (by decide) rfl ?_
      refine fr_goto (n := 25) dX12_settle__69 (by decide) ?_
      exact fr_sub [1, 2, 3, 4, 0] rfl h
    · have h := h.2 hc
      refine fr_iconst (v := 0) (by decide) dX12_settle__60 rfl ?_
      refine fr_goto (n := 65) dX12_settle__61 (by decide) ?_
      obtain ⟨hz4, h⟩ := h
      refine fr_iast dX12_settle__65 rfl k_o_turns hz4 ?_
      refine fr_memI (fun I5 hI5 => ?_)
      have h := h I5 hI5
      obtain ⟨y6, hy6⟩ : ∃ y : Int32, y = u4 + 1 := ⟨_, rfl⟩
      have h := h y6 hy6
      refine fr_iinc (q := 4) (v := y6) (lv' := [(4, .int y6), (0, rf g o), (1, .int u1), (2, .int u2), (3, .int u3)]) rfl (by rw [hy6]; rfl) dX12_settle__66 rfl (by decide) rfl ?_
      refine fr_goto (n := 25) dX12_settle__69 (by decide) ?_
      exact fr_sub [1, 2, 3, 4, 0] rfl h
abbrev Lp_X12_settle__89 (g : GE) (d : Nat) (o : Nat) (u1 : Int32) (u2 : Int32) (u3 : Int32) (u4 : Int32) (u5 : Int32) (u6 : Int32) (M : Mem) (r : Option Value) (M' : Mem) : Prop := Fr g d mu_X12_settle_ 89 [(0, rf g o), (1, .int u1), (2, .int u2), (3, .int u3), (4, .int u4), (5, .int u5), (6, .int u6)] [] M r M'
theorem wp_X12_settle__78 {g : GE} {Z : Zs} {I : Nat → Nat → Int32} {L : Nat → Nat → Int64} {r : Option Value} {M' : Mem} {o : Nat} {u1 : Int32} {u2 : Int32} {u3 : Int32} {u4 : Int32} {u5 : Int32} (k_o : KM Z o 12) (h : ((u4 = 0 → (r = none ∧ M' = (Z, I, L))) ∧ (¬ u4 = 0 → Lp_X12_settle__89 g 7 o u1 u2 u3 0 u5 0 (Z, I, L) r M'))) : Lp_X12_settle__78 g 7 o u1 u2 u3 u4 u5 (Z, I, L) r M' := by
  refine fr_iload (q := 4) rfl dX12_settle__78 rfl ?_
  refine fr_if_eq (tgt := 219) dX12_settle__80 (by decide) rfl (fun hc => ?_) (fun hc => ?_)
  · have h := h.1 hc
    exact fr_vret rfl dX12_settle__219 h.1 h.2
  · have h := h.2 hc
    refine fr_iconst (v := 0) (by decide) dX12_settle__83 rfl ?_
    refine fr_istore (lv' := [(4, .int 0), (0, rf g o), (1, .int u1), (2, .int u2), (3, .int u3), (5, .int u5)]) dX12_settle__84 rfl (by decide) rfl ?_
    refine fr_iconst (v := 0) (by decide) dX12_settle__86 rfl ?_
    refine fr_istore (lv' := [(6, .int 0), (4, .int 0), (0, rf g o), (1, .int u1), (2, .int u2), (3, .int u3), (5, .int u5)]) dX12_settle__87 rfl (by decide) rfl ?_
    exact fr_sub [2, 3, 4, 5, 1, 6, 0] rfl h
abbrev Lp_X12_settle__98 (g : GE) (d : Nat) (o : Nat) (u1 : Int32) (u2 : Int32) (u3 : Int32) (u4 : Int32) (u5 : Int32) (u6 : Int32) (u7 : Int32) (M : Mem) (r : Option Value) (M' : Mem) : Prop := Fr g d mu_X12_settle_ 98 [(0, rf g o), (1, .int u1), (2, .int u2), (3, .int u3), (4, .int u4), (5, .int u5), (6, .int u6), (7, .int u7)] [] M r M'
theorem wp_X12_settle__89 {g : GE} {Z : Zs} {I : Nat → Nat → Int32} {L : Nat → Nat → Int64} {r : Option Value} {M' : Mem} {o : Nat} {u1 : Int32} {u2 : Int32} {u3 : Int32} {u4 : Int32} {u5 : Int32} {u6 : Int32} (k_o : KM Z o 12) (h : ((u3 ≤ u6 → (∀ y1 : Int32, y1 = (u5 + 1) → Lp_X12_settle__78 g 7 o u1 u2 u3 u4 y1 (Z, I, L) r M')) ∧ (¬ u3 ≤ u6 → Lp_X12_settle__98 g 7 o u1 u2 u3 u4 u5 u6 0 (Z, I, L) r M'))) : Lp_X12_settle__89 g 7 o u1 u2 u3 u4 u5 u6 (Z, I, L) r M' := by
  refine fr_iload (q := 6) rfl dX12_settle__89 rfl ?_
  refine fr_iload_n (i := 3) (q := 3) rfl dX12_settle__91 rfl ?_
  refine fr_icmp_ge (tgt := 213) dX12_settle__92 (by decide) rfl (fun hc => ?_) (fun hc => ?_)
  · have h := h.1 hc
    obtain ⟨y1, hy1⟩ : ∃ y : Int32, y = u5 + 1 := ⟨_, rfl⟩
    have h := h y1 hy1
    refine fr_iinc (q := 5) (v := y1) (lv' := [(5, .int y1), (0, rf g o), (1, .int u1), (2, .int u2), (3, .int u3), (4, .int u4), (6, .int u6)]) rfl (by rw [hy1]; rfl) dX12_settle__213 rfl (by decide) rfl ?_
    refine fr_goto (n := 78) dX12_settle__216 (by decide) ?_
    exact fr_sub [1, 2, 3, 4, 5, 0] rfl h
  · have h := h.2 hc
    refine fr_iconst (v := 0) (by decide) dX12_settle__95 rfl ?_
    refine fr_istore (lv' := [(7, .int 0), (0, rf g o), (1, .int u1), (2, .int u2), (3, .int u3), (4, .int u4), (5, .int u5), (6, .int u6)]) dX12_settle__96 rfl (by decide) rfl ?_
    exact fr_sub [1, 2, 3, 4, 5, 6, 7, 0] rfl h
abbrev Lp_X12_settle__128 (g : GE) (d : Nat) (o : Nat) (u1 : Int32) (u2 : Int32) (u3 : Int32) (u4 : Int32) (u5 : Int32) (u6 : Int32) (u7 : Int32) (u8 : Int32) (M : Mem) (r : Option Value) (M' : Mem) : Prop := Fr g d mu_X12_settle_ 128 [(0, rf g o), (1, .int u1), (2, .int u2), (3, .int u3), (4, .int u4), (5, .int u5), (6, .int u6), (7, .int u7), (8, .int u8)] [] M r M'
theorem wp_X12_settle__98 {g : GE} {Z : Zs} {I : Nat → Nat → Int32} {L : Nat → Nat → Int64} {r : Option Value} {M' : Mem} {o : Nat} {u1 : Int32} {u2 : Int32} {u3 : Int32} {u4 : Int32} {u5 : Int32} {u6 : Int32} {u7 : Int32} (k_o : KM Z o 12) (h : ((u3 ≤ u7 → (∀ y1 : Int32, y1 = (u6 + 1) → Lp_X12_settle__89 g 7 o u1 u2 u3 u4 u5 y1 (Z, I, L) r M')) ∧ (¬ u3 ≤ u7 → (∃ (v2 : Int32), Cl g 2 mu_X12_isPose [rf g o, .int u6] (Z, I, L) (some (.int v2)) (Z, I, L) ∧ ((v2 = 0 → (∀ y4 : Int32, y4 = (u7 + 1) → Lp_X12_settle__98 g 7 o u1 u2 u3 u4 u5 u6 y4 (Z, I, L) r M')) ∧ (¬ v2 = 0 → (∃ (v5 : Int32), Cl g 2 mu_X12_isPose [rf g o, .int u7] (Z, I, L) (some (.int v5)) (Z, I, L) ∧ ((¬ v5 = 0 → Lp_X12_settle__128 g 7 o u1 u2 u3 u4 u5 u6 u7 0 (Z, I, L) r M') ∧ (v5 = 0 → (∀ y7 : Int32, y7 = (u7 + 1) → Lp_X12_settle__98 g 7 o u1 u2 u3 u4 u5 u6 y7 (Z, I, L) r M')))))))))) : Lp_X12_settle__98 g 7 o u1 u2 u3 u4 u5 u6 u7 (Z, I, L) r M' := by
  refine fr_iload (q := 7) rfl dX12_settle__98 rfl ?_
  refine fr_iload_n (i := 3) (q := 3) rfl dX12_settle__100 rfl ?_
  refine fr_icmp_ge (tgt := 207) dX12_settle__101 (by decide) rfl (fun hc => ?_) (fun hc => ?_)
  · have h := h.1 hc
    obtain ⟨y1, hy1⟩ : ∃ y : Int32, y = u6 + 1 := ⟨_, rfl⟩
    have h := h y1 hy1
    refine fr_iinc (q := 6) (v := y1) (lv' := [(6, .int y1), (0, rf g o), (1, .int u1), (2, .int u2), (3, .int u3), (4, .int u4), (5, .int u5), (7, .int u7)]) rfl (by rw [hy1]; rfl) dX12_settle__207 rfl (by decide) rfl ?_
    refine fr_goto (n := 89) dX12_settle__210 (by decide) ?_
    exact fr_sub [1, 2, 3, 4, 5, 6, 0] rfl h
  · have h := h.2 hc
    refine fr_aload_n (i := 0) (q := 0) rfl dX12_settle__104 rfl ?_
    refine fr_iload (q := 6) rfl dX12_settle__105 rfl ?_
    obtain ⟨v2, hc3, h⟩ := h
    refine fr_callV2 (ν := mu_X12_isPose) (st2 := [.int v2]) (As := [.int u6]) (st := []) (v := (some (.int v2))) (M1 := (Z, I, L)) dX12_settle__107 rfl ml_X12_110 mo_X12_isPose mi_X12_isPose (ci := 12) rfl rfl k_o (Nat.le_of_ble_eq_true rfl) rfl rfl (Nat.le_of_ble_eq_true rfl) hc3 rfl ?_
    refine fr_if_eq (tgt := 201) dX12_settle__110 (by decide) rfl (fun hc => ?_) (fun hc => ?_)
    · have h := h.1 hc
      obtain ⟨y4, hy4⟩ : ∃ y : Int32, y = u7 + 1 := ⟨_, rfl⟩
      have h := h y4 hy4
      refine fr_iinc (q := 7) (v := y4) (lv' := [(7, .int y4), (0, rf g o), (1, .int u1), (2, .int u2), (3, .int u3), (4, .int u4), (5, .int u5), (6, .int u6)]) rfl (by rw [hy4]; rfl) dX12_settle__201 rfl (by decide) rfl ?_
      refine fr_goto (n := 98) dX12_settle__204 (by decide) ?_
      exact fr_sub [1, 2, 3, 4, 5, 6, 7, 0] rfl h
    · have h := h.2 hc
      refine fr_aload_n (i := 0) (q := 0) rfl dX12_settle__113 rfl ?_
      refine fr_iload (q := 7) rfl dX12_settle__114 rfl ?_
      obtain ⟨v5, hc6, h⟩ := h
      refine fr_callV2 (ν := mu_X12_isPose) (st2 := [.int v5]) (As := [.int u7]) (st := []) (v := (some (.int v5))) (M1 := (Z, I, L)) dX12_settle__116 rfl ml_X12_110 mo_X12_isPose mi_X12_isPose (ci := 12) rfl rfl k_o (Nat.le_of_ble_eq_true rfl) rfl rfl (Nat.le_of_ble_eq_true rfl) hc6 rfl ?_
      refine fr_if_ne (tgt := 125) dX12_settle__119 (by decide) rfl (fun hc => ?_) (fun hc => ?_)
      · have h := h.1 hc
        refine fr_iconst (v := 0) (by decide) dX12_settle__125 rfl ?_
        refine fr_istore (lv' := [(8, .int 0), (0, rf g o), (1, .int u1), (2, .int u2), (3, .int u3), (4, .int u4), (5, .int u5), (6, .int u6), (7, .int u7)]) dX12_settle__126 rfl (by decide) rfl ?_
        exact fr_sub [1, 2, 3, 4, 5, 6, 7, 8, 0] rfl h
      · have h := h.2 hc
        refine fr_goto (n := 201) dX12_settle__122 (by decide) ?_
        obtain ⟨y7, hy7⟩ : ∃ y : Int32, y = u7 + 1 := ⟨_, rfl⟩
        have h := h y7 hy7
        refine fr_iinc (q := 7) (v := y7) (lv' := [(7, .int y7), (0, rf g o), (1, .int u1), (2, .int u2), (3, .int u3), (4, .int u4), (5, .int u5), (6, .int u6)]) rfl (by rw [hy7]; rfl) dX12_settle__201 rfl (by decide) rfl ?_
        refine fr_goto (n := 98) dX12_settle__204 (by decide) ?_
        exact fr_sub [1, 2, 3, 4, 5, 6, 7, 0] rfl h
theorem wp_X12_settle__128 {g : GE} {Z : Zs} {I : Nat → Nat → Int32} {L : Nat → Nat → Int64} {r : Option Value} {M' : Mem} {o : Nat} {u1 : Int32} {u2 : Int32} {u3 : Int32} {u4 : Int32} {u5 : Int32} {u6 : Int32} {u7 : Int32} {u8 : Int32} {o_turns : Nat} (k_o : KM Z o 12) (r_o_turns : Z.2.1 o 42 = some o_turns) (k_o_turns : KM Z o_turns 13) (h : ((2 ≤ u8 → (∀ y1 : Int32, y1 = (u7 + 1) → Lp_X12_settle__98 g 7 o u1 u2 u3 u4 u5 u6 y1 (Z, I, L) r M')) ∧ (¬ 2 ≤ u8 → (∃ (v2 : Int32), Cl g 1 mu_X12_stateAt [.int u8, .int u6, .int u7] (Z, I, L) (some (.int v2)) (Z, I, L) ∧ (vp_in v2 (Z.2.2.1 o_turns) ∧ ((0 ≤ (I o_turns v2.toNatClampNeg) → (∀ y5 : Int32, y5 = (u8 + 1) → Lp_X12_settle__128 g 7 o u1 u2 u3 u4 u5 u6 u7 y5 (Z, I, L) r M')) ∧ (¬ 0 ≤ (I o_turns v2.toNatClampNeg) → ((¬ u8 = 0 → (∃ (v6 : Int32), Cl g 4 mu_X12_isSettled [rf g o, .int u8, .int u2, .int u6, .int u7, .int u5] (Z, I, L) (some (.int v6)) (Z, I, L) ∧ ((¬ v6 = 0 → (vp_in v2 (Z.2.2.1 o_turns) ∧ (∀ I9 : Nat → Nat → Int32, I9 = rw1 I o_turns (upd (I o_turns) v2.toNatClampNeg u5) → (∀ y10 : Int32, y10 = (u8 + 1) → Lp_X12_settle__128 g 7 o u1 u2 u3 1 u5 u6 u7 y10 (Z, I9, L) r M')))) ∧ (v6 = 0 → (∀ y11 : Int32, y11 = (u8 + 1) → Lp_X12_settle__128 g 7 o u1 u2 u3 u4 u5 u6 u7 y11 (Z, I, L) r M'))))) ∧ (u8 = 0 → (∃ (v12 : Int32), Cl g 4 mu_X12_isSettled [rf g o, .int u8, .int u1, .int u6, .int u7, .int u5] (Z, I, L) (some (.int v12)) (Z, I, L) ∧ ((¬ v12 = 0 → (vp_in v2 (Z.2.2.1 o_turns) ∧ (∀ I15 : Nat → Nat → Int32, I15 = rw1 I o_turns (upd (I o_turns) v2.toNatClampNeg u5) → (∀ y16 : Int32, y16 = (u8 + 1) → Lp_X12_settle__128 g 7 o u1 u2 u3 1 u5 u6 u7 y16 (Z, I15, L) r M')))) ∧ (v12 = 0 → (∀ y17 : Int32, y17 = (u8 + 1) → Lp_X12_settle__128 g 7 o u1 u2 u3 u4 u5 u6 u7 y17 (Z, I, L) r M'))))))))))))) : Lp_X12_settle__128 g 7 o u1 u2 u3 u4 u5 u6 u7 u8 (Z, I, L) r M' := by
  refine fr_iload (q := 8) rfl dX12_settle__128 rfl ?_
  refine fr_iconst (v := 2) (by decide) dX12_settle__130 rfl ?_
  refine fr_icmp_ge (tgt := 201) dX12_settle__131 (by decide) rfl (fun hc => ?_) (fun hc => ?_)
  · have h := h.1 hc
    obtain ⟨y1, hy1⟩ : ∃ y : Int32, y = u7 + 1 := ⟨_, rfl⟩
    have h := h y1 hy1
    refine fr_iinc (q := 7) (v := y1) (lv' := [(7, .int y1), (0, rf g o), (1, .int u1), (2, .int u2), (3, .int u3), (4, .int u4), (5, .int u5), (6, .int u6), (8, .int u8)]) rfl (by rw [hy1]; rfl) dX12_settle__201 rfl (by decide) rfl ?_
    refine fr_goto (n := 98) dX12_settle__204 (by decide) ?_
    exact fr_sub [1, 2, 3, 4, 5, 6, 7, 0] rfl h
  · have h := h.2 hc
    refine fr_iload (q := 8) rfl dX12_settle__134 rfl ?_
    refine fr_iload (q := 6) rfl dX12_settle__136 rfl ?_
    refine fr_iload (q := 7) rfl dX12_settle__138 rfl ?_
    obtain ⟨v2, hc3, h⟩ := h
    refine fr_callS2 (ν := mu_X12_stateAt) (st2 := [.int v2]) (As := [.int u8, .int u6, .int u7]) (st := []) (v := (some (.int v2))) (M1 := (Z, I, L)) dX12_settle__140 rfl ml_X12_371 mo_X12_stateAt ms_X12_stateAt (Nat.le_of_ble_eq_true rfl) rfl rfl (Nat.le_of_ble_eq_true rfl) hc3 rfl ?_
    refine fr_istore (lv' := [(9, .int v2), (0, rf g o), (1, .int u1), (2, .int u2), (3, .int u3), (4, .int u4), (5, .int u5), (6, .int u6), (7, .int u7), (8, .int u8)]) dX12_settle__143 rfl (by decide) rfl ?_
    refine fr_aload_n (i := 0) (q := 1) rfl dX12_settle__145 rfl ?_
    refine fr_getR dX12_settle__146 rfl fl_X12_82 k_o r_o_turns ?_
    refine fr_iload (q := 0) rfl dX12_settle__149 rfl ?_
    obtain ⟨hz4, h⟩ := h
    refine fr_iald dX12_settle__151 rfl k_o_turns hz4 ?_
    refine fr_if_ge (tgt := 195) dX12_settle__152 (by decide) rfl (fun hc => ?_) (fun hc => ?_)
    · have h := h.1 hc
      obtain ⟨y5, hy5⟩ : ∃ y : Int32, y = u8 + 1 := ⟨_, rfl⟩
      have h := h y5 hy5
      refine fr_iinc (q := 9) (v := y5) (lv' := [(8, .int y5), (9, .int v2), (0, rf g o), (1, .int u1), (2, .int u2), (3, .int u3), (4, .int u4), (5, .int u5), (6, .int u6), (7, .int u7)]) rfl (by rw [hy5]; rfl) dX12_settle__195 rfl (by decide) rfl ?_
      refine fr_goto (n := 128) dX12_settle__198 (by decide) ?_
      exact fr_sub [2, 3, 4, 5, 6, 7, 8, 9, 0] rfl h
    · have h := h.2 hc
      refine fr_aload_n (i := 0) (q := 1) rfl dX12_settle__155 rfl ?_
      refine fr_iload (q := 9) rfl dX12_settle__156 rfl ?_
      refine fr_iload (q := 9) rfl dX12_settle__158 rfl ?_
      refine fr_if_ne (tgt := 167) dX12_settle__160 (by decide) rfl (fun hc => ?_) (fun hc => ?_)
      · have h := h.1 hc
        refine fr_iload_n (i := 2) (q := 3) rfl dX12_settle__167 rfl ?_
        refine fr_iload (q := 7) rfl dX12_settle__168 rfl ?_
        refine fr_iload (q := 8) rfl dX12_settle__170 rfl ?_
        refine fr_iload (q := 6) rfl dX12_settle__172 rfl ?_
        obtain ⟨v6, hc7, h⟩ := h
        refine fr_callV2 (ν := mu_X12_isSettled) (st2 := [.int v6]) (As := [.int u8, .int u2, .int u6, .int u7, .int u5]) (st := []) (v := (some (.int v6))) (M1 := (Z, I, L)) dX12_settle__174 rfl ml_X12_378 mo_X12_isSettled mi_X12_isSettled (ci := 12) rfl rfl k_o (Nat.le_of_ble_eq_true rfl) rfl rfl (Nat.le_of_ble_eq_true rfl) hc7 rfl ?_
        refine fr_if_ne (tgt := 183) dX12_settle__177 (by decide) rfl (fun hc => ?_) (fun hc => ?_)
        · have h := h.1 hc
          refine fr_aload_n (i := 0) (q := 1) rfl dX12_settle__183 rfl ?_
          refine fr_getR dX12_settle__184 rfl fl_X12_82 k_o r_o_turns ?_
          refine fr_iload (q := 0) rfl dX12_settle__187 rfl ?_
          refine fr_iload (q := 6) rfl dX12_settle__189 rfl ?_
          obtain ⟨hz8, h⟩ := h
          refine fr_iast dX12_settle__191 rfl k_o_turns hz8 ?_
          refine fr_memI (fun I9 hI9 => ?_)
          have h := h I9 hI9
          refine fr_iconst (v := 1) (by decide) dX12_settle__192 rfl ?_
          refine fr_istore (lv' := [(4, .int 1), (9, .int v2), (0, rf g o), (1, .int u1), (2, .int u2), (3, .int u3), (5, .int u5), (6, .int u6), (7, .int u7), (8, .int u8)]) dX12_settle__193 rfl (by decide) rfl ?_
          obtain ⟨y10, hy10⟩ : ∃ y : Int32, y = u8 + 1 := ⟨_, rfl⟩
          have h := h y10 hy10
          refine fr_iinc (q := 9) (v := y10) (lv' := [(8, .int y10), (4, .int 1), (9, .int v2), (0, rf g o), (1, .int u1), (2, .int u2), (3, .int u3), (5, .int u5), (6, .int u6), (7, .int u7)]) rfl (by rw [hy10]; rfl) dX12_settle__195 rfl (by decide) rfl ?_
          refine fr_goto (n := 128) dX12_settle__198 (by decide) ?_
          exact fr_sub [3, 4, 5, 6, 1, 7, 8, 9, 0] rfl h
        · have h := h.2 hc
          refine fr_goto (n := 195) dX12_settle__180 (by decide) ?_
          obtain ⟨y11, hy11⟩ : ∃ y : Int32, y = u8 + 1 := ⟨_, rfl⟩
          have h := h y11 hy11
          refine fr_iinc (q := 9) (v := y11) (lv' := [(8, .int y11), (9, .int v2), (0, rf g o), (1, .int u1), (2, .int u2), (3, .int u3), (4, .int u4), (5, .int u5), (6, .int u6), (7, .int u7)]) rfl (by rw [hy11]; rfl) dX12_settle__195 rfl (by decide) rfl ?_
          refine fr_goto (n := 128) dX12_settle__198 (by decide) ?_
          exact fr_sub [2, 3, 4, 5, 6, 7, 8, 9, 0] rfl h
      · have h := h.2 hc
        refine fr_iload_n (i := 1) (q := 2) rfl dX12_settle__163 rfl ?_
        refine fr_goto (n := 168) dX12_settle__164 (by decide) ?_
        refine fr_iload (q := 7) rfl dX12_settle__168 rfl ?_
        refine fr_iload (q := 8) rfl dX12_settle__170 rfl ?_
        refine fr_iload (q := 6) rfl dX12_settle__172 rfl ?_
        obtain ⟨v12, hc13, h⟩ := h
        refine fr_callV2 (ν := mu_X12_isSettled) (st2 := [.int v12]) (As := [.int u8, .int u1, .int u6, .int u7, .int u5]) (st := []) (v := (some (.int v12))) (M1 := (Z, I, L)) dX12_settle__174 rfl ml_X12_378 mo_X12_isSettled mi_X12_isSettled (ci := 12) rfl rfl k_o (Nat.le_of_ble_eq_true rfl) rfl rfl (Nat.le_of_ble_eq_true rfl) hc13 rfl ?_
        refine fr_if_ne (tgt := 183) dX12_settle__177 (by decide) rfl (fun hc => ?_) (fun hc => ?_)
        · have h := h.1 hc
          refine fr_aload_n (i := 0) (q := 1) rfl dX12_settle__183 rfl ?_
          refine fr_getR dX12_settle__184 rfl fl_X12_82 k_o r_o_turns ?_
          refine fr_iload (q := 0) rfl dX12_settle__187 rfl ?_
          refine fr_iload (q := 6) rfl dX12_settle__189 rfl ?_
          obtain ⟨hz14, h⟩ := h
          refine fr_iast dX12_settle__191 rfl k_o_turns hz14 ?_
          refine fr_memI (fun I15 hI15 => ?_)
          have h := h I15 hI15
          refine fr_iconst (v := 1) (by decide) dX12_settle__192 rfl ?_
          refine fr_istore (lv' := [(4, .int 1), (9, .int v2), (0, rf g o), (1, .int u1), (2, .int u2), (3, .int u3), (5, .int u5), (6, .int u6), (7, .int u7), (8, .int u8)]) dX12_settle__193 rfl (by decide) rfl ?_
          obtain ⟨y16, hy16⟩ : ∃ y : Int32, y = u8 + 1 := ⟨_, rfl⟩
          have h := h y16 hy16
          refine fr_iinc (q := 9) (v := y16) (lv' := [(8, .int y16), (4, .int 1), (9, .int v2), (0, rf g o), (1, .int u1), (2, .int u2), (3, .int u3), (5, .int u5), (6, .int u6), (7, .int u7)]) rfl (by rw [hy16]; rfl) dX12_settle__195 rfl (by decide) rfl ?_
          refine fr_goto (n := 128) dX12_settle__198 (by decide) ?_
          exact fr_sub [3, 4, 5, 6, 1, 7, 8, 9, 0] rfl h
        · have h := h.2 hc
          refine fr_goto (n := 195) dX12_settle__180 (by decide) ?_
          obtain ⟨y17, hy17⟩ : ∃ y : Int32, y = u8 + 1 := ⟨_, rfl⟩
          have h := h y17 hy17
          refine fr_iinc (q := 9) (v := y17) (lv' := [(8, .int y17), (9, .int v2), (0, rf g o), (1, .int u1), (2, .int u2), (3, .int u3), (4, .int u4), (5, .int u5), (6, .int u6), (7, .int u7)]) rfl (by rw [hy17]; rfl) dX12_settle__195 rfl (by decide) rfl ?_
          refine fr_goto (n := 128) dX12_settle__198 (by decide) ?_
          exact fr_sub [2, 3, 4, 5, 6, 7, 8, 9, 0] rfl h
theorem cp_X12_isChase {g : GE} {Z : Zs} {I : Nat → Nat → Int32} {L : Nat → Nat → Int64} {r : Option Value} {M' : Mem} {o : Nat} {x1 : Int32} {x2 : Int32} {x3 : Int32} {x4 : Int32} (k_o : KM Z o 12) (h : (∃ (v1 : Int32), Cl g 2 mu_X12_isText [rf g o, .int x1] (Z, I, L) (some (.int v1)) (Z, I, L) ∧ ((v1 = 0 → (r = some (.int 0) ∧ M' = (Z, I, L))) ∧ (¬ v1 = 0 → (∃ (v3 : Int32), Cl g 2 mu_X12_isText [rf g o, .int x3] (Z, I, L) (some (.int v3)) (Z, I, L) ∧ ((v3 = 0 → (r = some (.int 0) ∧ M' = (Z, I, L))) ∧ (¬ v3 = 0 → (∃ (v5 : Int32), Cl g 2 mu_X12_isPose [rf g o, .int x2] (Z, I, L) (some (.int v5)) (Z, I, L) ∧ ((v5 = 0 → (r = some (.int 0) ∧ M' = (Z, I, L))) ∧ (¬ v5 = 0 → (∃ (v7 : Int32), Cl g 2 mu_X12_isPose [rf g o, .int x4] (Z, I, L) (some (.int v7)) (Z, I, L) ∧ ((v7 = 0 → (r = some (.int 0) ∧ M' = (Z, I, L))) ∧ (¬ v7 = 0 → (r = some (.int 1) ∧ M' = (Z, I, L))))))))))))))) : Cl g 3 mu_X12_isChase [rf g o, .int x1, .int x2, .int x3, .int x4] (Z, I, L) r M' := by
  refine cl_of (lv := [(0, rf g o), (1, .int x1), (2, .int x2), (3, .int x3), (4, .int x4)]) (by decide) (Nat.le_of_ble_eq_true rfl) rfl ?_
  refine fr_aload_n (i := 0) (q := 0) rfl dX12_isChase_0 rfl ?_
  refine fr_iload_n (i := 1) (q := 1) rfl dX12_isChase_1 rfl ?_
  obtain ⟨v1, hc2, h⟩ := h
  refine fr_callV2 (ν := mu_X12_isText) (st2 := [.int v1]) (As := [.int x1]) (st := []) (v := (some (.int v1))) (M1 := (Z, I, L)) dX12_isChase_2 rfl ml_X12_113 mo_X12_isText mi_X12_isText (ci := 12) rfl rfl k_o (Nat.le_of_ble_eq_true rfl) rfl rfl (Nat.le_of_ble_eq_true rfl) hc2 rfl ?_
  refine fr_if_eq (tgt := 37) dX12_isChase_5 (by decide) rfl (fun hc => ?_) (fun hc => ?_)
  · have h := h.1 hc
    refine fr_iconst (v := 0) (by decide) dX12_isChase_37 rfl ?_
    exact fr_zret (by decide) rfl dX12_isChase_38 h.1 h.2
  · have h := h.2 hc
    refine fr_aload_n (i := 0) (q := 0) rfl dX12_isChase_8 rfl ?_
    refine fr_iload_n (i := 3) (q := 3) rfl dX12_isChase_9 rfl ?_
    obtain ⟨v3, hc4, h⟩ := h
    refine fr_callV2 (ν := mu_X12_isText) (st2 := [.int v3]) (As := [.int x3]) (st := []) (v := (some (.int v3))) (M1 := (Z, I, L)) dX12_isChase_10 rfl ml_X12_113 mo_X12_isText mi_X12_isText (ci := 12) rfl rfl k_o (Nat.le_of_ble_eq_true rfl) rfl rfl (Nat.le_of_ble_eq_true rfl) hc4 rfl ?_
    refine fr_if_eq (tgt := 37) dX12_isChase_13 (by decide) rfl (fun hc => ?_) (fun hc => ?_)
    · have h := h.1 hc
      refine fr_iconst (v := 0) (by decide) dX12_isChase_37 rfl ?_
      exact fr_zret (by decide) rfl dX12_isChase_38 h.1 h.2
    · have h := h.2 hc
      refine fr_aload_n (i := 0) (q := 0) rfl dX12_isChase_16 rfl ?_
      refine fr_iload_n (i := 2) (q := 2) rfl dX12_isChase_17 rfl ?_
      obtain ⟨v5, hc6, h⟩ := h
      refine fr_callV2 (ν := mu_X12_isPose) (st2 := [.int v5]) (As := [.int x2]) (st := []) (v := (some (.int v5))) (M1 := (Z, I, L)) dX12_isChase_18 rfl ml_X12_110 mo_X12_isPose mi_X12_isPose (ci := 12) rfl rfl k_o (Nat.le_of_ble_eq_true rfl) rfl rfl (Nat.le_of_ble_eq_true rfl) hc6 rfl ?_
      refine fr_if_eq (tgt := 37) dX12_isChase_21 (by decide) rfl (fun hc => ?_) (fun hc => ?_)
      · have h := h.1 hc
        refine fr_iconst (v := 0) (by decide) dX12_isChase_37 rfl ?_
        exact fr_zret (by decide) rfl dX12_isChase_38 h.1 h.2
      · have h := h.2 hc
        refine fr_aload_n (i := 0) (q := 0) rfl dX12_isChase_24 rfl ?_
        refine fr_iload (q := 4) rfl dX12_isChase_25 rfl ?_
        obtain ⟨v7, hc8, h⟩ := h
        refine fr_callV2 (ν := mu_X12_isPose) (st2 := [.int v7]) (As := [.int x4]) (st := []) (v := (some (.int v7))) (M1 := (Z, I, L)) dX12_isChase_27 rfl ml_X12_110 mo_X12_isPose mi_X12_isPose (ci := 12) rfl rfl k_o (Nat.le_of_ble_eq_true rfl) rfl rfl (Nat.le_of_ble_eq_true rfl) hc8 rfl ?_
        refine fr_if_eq (tgt := 37) dX12_isChase_30 (by decide) rfl (fun hc => ?_) (fun hc => ?_)
        · have h := h.1 hc
          refine fr_iconst (v := 0) (by decide) dX12_isChase_37 rfl ?_
          exact fr_zret (by decide) rfl dX12_isChase_38 h.1 h.2
        · have h := h.2 hc
          refine fr_iconst (v := 1) (by decide) dX12_isChase_33 rfl ?_
          refine fr_goto (n := 38) dX12_isChase_34 (by decide) ?_
          exact fr_zret (by decide) rfl dX12_isChase_38 h.1 h.2
theorem cp_X12_chase {g : GE} {Z : Zs} {I : Nat → Nat → Int32} {L : Nat → Nat → Int64} {r : Option Value} {M' : Mem} {o : Nat} {x1 : Int32} {x2 : Int32} {x3 : Int32} {x4 : Int32} {o_turns : Nat} (k_o : KM Z o 12) (r_o_turns : Z.2.1 o 42 = some o_turns) (k_o_turns : KM Z o_turns 13) (h : (∃ (v1 : Int32), Cl g 3 mu_X12_isChase [rf g o, .int x1, .int x2, .int x3, .int x4] (Z, I, L) (some (.int v1)) (Z, I, L) ∧ ((¬ v1 = 0 → (∃ (I3 : Nat → Nat → Int32) (L4 : Nat → Nat → Int64), Cl g 7 mu_X12_settle_ [rf g o, .int x1, .int x3] (Z, I, L) none (Z, I3, L4) ∧ (∃ (v6 : Int32), Cl g 1 mu_X12_stateAt [.int 0, .int x2, .int x4] (Z, I3, L4) (some (.int v6)) (Z, I3, L4) ∧ (vp_in v6 (Z.2.2.1 o_turns) ∧ (r = some (.int (I3 o_turns v6.toNatClampNeg)) ∧ M' = (Z, I3, L4)))))) ∧ (v1 = 0 → (r = some (.int ((-1))) ∧ M' = (Z, I, L)))))) : Cl g 8 mu_X12_chase [rf g o, .int x1, .int x2, .int x3, .int x4] (Z, I, L) r M' := by
  refine cl_of (lv := [(0, rf g o), (1, .int x1), (2, .int x2), (3, .int x3), (4, .int x4)]) (by decide) (Nat.le_of_ble_eq_true rfl) rfl ?_
  refine fr_aload_n (i := 0) (q := 0) rfl dX12_chase_0 rfl ?_
  refine fr_iload_n (i := 1) (q := 1) rfl dX12_chase_1 rfl ?_
  refine fr_iload_n (i := 2) (q := 2) rfl dX12_chase_2 rfl ?_
  refine fr_iload_n (i := 3) (q := 3) rfl dX12_chase_3 rfl ?_
  refine fr_iload (q := 4) rfl dX12_chase_4 rfl ?_
  obtain ⟨v1, hc2, h⟩ := h
  refine fr_callV2 (ν := mu_X12_isChase) (st2 := [.int v1]) (As := [.int x1, .int x2, .int x3, .int x4]) (st := []) (v := (some (.int v1))) (M1 := (Z, I, L)) dX12_chase_6 rfl ml_X12_381 mo_X12_isChase mi_X12_isChase (ci := 12) rfl rfl k_o (Nat.le_of_ble_eq_true rfl) rfl rfl (Nat.le_of_ble_eq_true rfl) hc2 rfl ?_
  refine fr_if_ne (tgt := 14) dX12_chase_9 (by decide) rfl (fun hc => ?_) (fun hc => ?_)
  · have h := h.1 hc
    refine fr_aload_n (i := 0) (q := 0) rfl dX12_chase_14 rfl ?_
    refine fr_iload_n (i := 1) (q := 1) rfl dX12_chase_15 rfl ?_
    refine fr_iload_n (i := 3) (q := 3) rfl dX12_chase_16 rfl ?_
    obtain ⟨I3, L4, hc5, h⟩ := h
    refine fr_callV2 (ν := mu_X12_settle_) (st2 := []) (As := [.int x1, .int x3]) (st := []) (v := none) (M1 := (Z, I3, L4)) dX12_chase_17 rfl ml_X12_385 mo_X12_settle_ mi_X12_settle_ (ci := 12) rfl rfl k_o (Nat.le_of_ble_eq_true rfl) rfl rfl (Nat.le_of_ble_eq_true rfl) hc5 rfl ?_
    refine fr_aload_n (i := 0) (q := 0) rfl dX12_chase_20 rfl ?_
    refine fr_getR dX12_chase_21 rfl fl_X12_82 k_o r_o_turns ?_
    refine fr_iconst (v := 0) (by decide) dX12_chase_24 rfl ?_
    refine fr_iload_n (i := 2) (q := 2) rfl dX12_chase_25 rfl ?_
    refine fr_iload (q := 4) rfl dX12_chase_26 rfl ?_
    obtain ⟨v6, hc7, h⟩ := h
    refine fr_callS2 (ν := mu_X12_stateAt) (st2 := [.int v6, rf g o_turns]) (As := [.int 0, .int x2, .int x4]) (st := [rf g o_turns]) (v := (some (.int v6))) (M1 := (Z, I3, L4)) dX12_chase_28 rfl ml_X12_371 mo_X12_stateAt ms_X12_stateAt (Nat.le_of_ble_eq_true rfl) rfl rfl (Nat.le_of_ble_eq_true rfl) hc7 rfl ?_
    obtain ⟨hz8, h⟩ := h
    refine fr_iald dX12_chase_31 rfl k_o_turns hz8 ?_
    exact fr_iret rfl dX12_chase_32 h.1 h.2
  · have h := h.2 hc
    refine fr_iconst (v := (-1)) (by decide) dX12_chase_12 rfl ?_
    exact fr_iret rfl dX12_chase_13 h.1 h.2
abbrev Lp_X12_hunt_36 (g : GE) (d : Nat) (o : Nat) (u1 : Int32) (u2 : Int32) (u4 : Int32) (u5 : Int32) (u6 : Int32) (M : Mem) (r : Option Value) (M' : Mem) : Prop := Fr g d mu_X12_hunt 36 [(0, rf g o), (1, .int u1), (2, .int u2), (4, .int u4), (5, .int u5), (6, .int u6)] [] M r M'
theorem cp_X12_hunt {g : GE} {Z : Zs} {I : Nat → Nat → Int32} {L : Nat → Nat → Int64} {r : Option Value} {M' : Mem} {o : Nat} {x1 : Int32} {x2 : Int32} {x3 : Int32} {x4 : Int32} (k_o : KM Z o 12) (h : (∃ (v1 : Int32), Cl g 3 mu_X12_isChase [rf g o, .int x1, .int x2, .int x3, .int x4] (Z, I, L) (some (.int v1)) (Z, I, L) ∧ ((v1 = 0 → (r = some (.int ((-1))) ∧ M' = (Z, I, L))) ∧ (¬ v1 = 0 → ((¬ (x2 / 4) = (x4 / 4) → (∃ (I3 : Nat → Nat → Int32) (L4 : Nat → Nat → Int64), Cl g 7 mu_X12_settle_ [rf g o, .int x1, .int x3] (Z, I, L) none (Z, I3, L4) ∧ (∀ y6 : Int32, y6 = ((-1)) → Lp_X12_hunt_36 g 8 o x1 x2 x4 y6 0 (Z, I3, L4) r M'))) ∧ ((x2 / 4) = (x4 / 4) → (r = some (.int ((-1))) ∧ M' = (Z, I, L)))))))) : Cl g 8 mu_X12_hunt [rf g o, .int x1, .int x2, .int x3, .int x4] (Z, I, L) r M' := by
  refine cl_of (lv := [(0, rf g o), (1, .int x1), (2, .int x2), (3, .int x3), (4, .int x4)]) (by decide) (Nat.le_of_ble_eq_true rfl) rfl ?_
  refine fr_aload_n (i := 0) (q := 0) rfl dX12_hunt_0 rfl ?_
  refine fr_iload_n (i := 1) (q := 1) rfl dX12_hunt_1 rfl ?_
  refine fr_iload_n (i := 2) (q := 2) rfl dX12_hunt_2 rfl ?_
  refine fr_iload_n (i := 3) (q := 3) rfl dX12_hunt_3 rfl ?_
  refine fr_iload (q := 4) rfl dX12_hunt_4 rfl ?_
  obtain ⟨v1, hc2, h⟩ := h
  refine fr_callV2 (ν := mu_X12_isChase) (st2 := [.int v1]) (As := [.int x1, .int x2, .int x3, .int x4]) (st := []) (v := (some (.int v1))) (M1 := (Z, I, L)) dX12_hunt_6 rfl ml_X12_381 mo_X12_isChase mi_X12_isChase (ci := 12) rfl rfl k_o (Nat.le_of_ble_eq_true rfl) rfl rfl (Nat.le_of_ble_eq_true rfl) hc2 rfl ?_
  refine fr_if_eq (tgt := 22) dX12_hunt_9 (by decide) rfl (fun hc => ?_) (fun hc => ?_)
  · have h := h.1 hc
    refine fr_iconst (v := (-1)) (by decide) dX12_hunt_22 rfl ?_
    exact fr_iret rfl dX12_hunt_23 h.1 h.2
  · have h := h.2 hc
    refine fr_iload_n (i := 2) (q := 2) rfl dX12_hunt_12 rfl ?_
    refine fr_iconst (v := 4) (by decide) dX12_hunt_13 rfl ?_
    refine fr_idiv (by decide) dX12_hunt_14 rfl ?_
    refine fr_iload (q := 4) rfl dX12_hunt_15 rfl ?_
    refine fr_iconst (v := 4) (by decide) dX12_hunt_17 rfl ?_
    refine fr_idiv (by decide) dX12_hunt_18 rfl ?_
    refine fr_icmp_ne (tgt := 24) dX12_hunt_19 (by decide) rfl (fun hc => ?_) (fun hc => ?_)
    · have h := h.1 hc
      refine fr_aload_n (i := 0) (q := 0) rfl dX12_hunt_24 rfl ?_
      refine fr_iload_n (i := 1) (q := 1) rfl dX12_hunt_25 rfl ?_
      refine fr_iload_n (i := 3) (q := 3) rfl dX12_hunt_26 rfl ?_
      obtain ⟨I3, L4, hc5, h⟩ := h
      refine fr_callV2 (ν := mu_X12_settle_) (st2 := []) (As := [.int x1, .int x3]) (st := []) (v := none) (M1 := (Z, I3, L4)) dX12_hunt_27 rfl ml_X12_385 mo_X12_settle_ mi_X12_settle_ (ci := 12) rfl rfl k_o (Nat.le_of_ble_eq_true rfl) rfl rfl (Nat.le_of_ble_eq_true rfl) hc5 rfl ?_
      refine fr_iconst (v := (-1)) (by decide) dX12_hunt_30 rfl ?_
      refine fr_topi (fun y6 hy6 => ?_)
      have h := h y6 hy6
      refine fr_istore (lv' := [(5, .int y6), (0, rf g o), (1, .int x1), (2, .int x2), (3, .int x3), (4, .int x4)]) dX12_hunt_31 rfl (by decide) rfl ?_
      refine fr_iconst (v := 0) (by decide) dX12_hunt_33 rfl ?_
      refine fr_istore (lv' := [(6, .int 0), (5, .int y6), (0, rf g o), (1, .int x1), (2, .int x2), (3, .int x3), (4, .int x4)]) dX12_hunt_34 rfl (by decide) rfl ?_
      exact fr_sub [2, 3, 4, 6, 1, 0] rfl h
    · have h := h.2 hc
      refine fr_iconst (v := (-1)) (by decide) dX12_hunt_22 rfl ?_
      exact fr_iret rfl dX12_hunt_23 h.1 h.2
theorem wp_X12_hunt_36 {g : GE} {Z : Zs} {I : Nat → Nat → Int32} {L : Nat → Nat → Int64} {r : Option Value} {M' : Mem} {o : Nat} {u1 : Int32} {u2 : Int32} {u4 : Int32} {u5 : Int32} {u6 : Int32} (k_o : KM Z o 12) (h : ((4 ≤ u6 → (r = some (.int u5) ∧ M' = (Z, I, L))) ∧ (¬ 4 ≤ u6 → (∃ (v1 : Int32), Cl g 3 mu_X12_turnsBehind [rf g o, .int 0, .int u1, .int u2, .int u4, .int u6] (Z, I, L) (some (.int v1)) (Z, I, L) ∧ ((v1 < 0 → (∀ y3 : Int32, y3 = (u6 + 1) → Lp_X12_hunt_36 g 8 o u1 u2 u4 u5 y3 (Z, I, L) r M')) ∧ (¬ v1 < 0 → ((u5 < 0 → (∀ y4 : Int32, y4 = (u6 + 1) → Lp_X12_hunt_36 g 8 o u1 u2 u4 u6 y4 (Z, I, L) r M')) ∧ (¬ u5 < 0 → (∃ (v5 : Int32), Cl g 3 mu_X12_turnsBehind [rf g o, .int 0, .int u1, .int u2, .int u4, .int u5] (Z, I, L) (some (.int v5)) (Z, I, L) ∧ ((v5 ≤ v1 → (∀ y7 : Int32, y7 = (u6 + 1) → Lp_X12_hunt_36 g 8 o u1 u2 u4 u5 y7 (Z, I, L) r M')) ∧ (¬ v5 ≤ v1 → (∀ y8 : Int32, y8 = (u6 + 1) → Lp_X12_hunt_36 g 8 o u1 u2 u4 u6 y8 (Z, I, L) r M')))))))))))) : Lp_X12_hunt_36 g 8 o u1 u2 u4 u5 u6 (Z, I, L) r M' := by
  refine fr_iload (q := 5) rfl dX12_hunt_36 rfl ?_
  refine fr_iconst (v := 4) (by decide) dX12_hunt_38 rfl ?_
  refine fr_icmp_ge (tgt := 91) dX12_hunt_39 (by decide) rfl (fun hc => ?_) (fun hc => ?_)
  · have h := h.1 hc
    refine fr_iload (q := 4) rfl dX12_hunt_91 rfl ?_
    exact fr_iret rfl dX12_hunt_93 h.1 h.2
  · have h := h.2 hc
    refine fr_aload_n (i := 0) (q := 0) rfl dX12_hunt_42 rfl ?_
    refine fr_iconst (v := 0) (by decide) dX12_hunt_43 rfl ?_
    refine fr_iload_n (i := 1) (q := 1) rfl dX12_hunt_44 rfl ?_
    refine fr_iload_n (i := 2) (q := 2) rfl dX12_hunt_45 rfl ?_
    refine fr_iload (q := 3) rfl dX12_hunt_46 rfl ?_
    refine fr_iload (q := 5) rfl dX12_hunt_48 rfl ?_
    obtain ⟨v1, hc2, h⟩ := h
    refine fr_callV2 (ν := mu_X12_turnsBehind) (st2 := [.int v1]) (As := [.int 0, .int u1, .int u2, .int u4, .int u6]) (st := []) (v := (some (.int v1))) (M1 := (Z, I, L)) dX12_hunt_50 rfl ml_X12_374 mo_X12_turnsBehind mi_X12_turnsBehind (ci := 12) rfl rfl k_o (Nat.le_of_ble_eq_true rfl) rfl rfl (Nat.le_of_ble_eq_true rfl) hc2 rfl ?_
    refine fr_istore (lv' := [(7, .int v1), (0, rf g o), (1, .int u1), (2, .int u2), (4, .int u4), (5, .int u5), (6, .int u6)]) dX12_hunt_53 rfl (by decide) rfl ?_
    refine fr_iload (q := 0) rfl dX12_hunt_55 rfl ?_
    refine fr_if_lt (tgt := 85) dX12_hunt_57 (by decide) rfl (fun hc => ?_) (fun hc => ?_)
    · have h := h.1 hc
      obtain ⟨y3, hy3⟩ : ∃ y : Int32, y = u6 + 1 := ⟨_, rfl⟩
      have h := h y3 hy3
      refine fr_iinc (q := 6) (v := y3) (lv' := [(6, .int y3), (7, .int v1), (0, rf g o), (1, .int u1), (2, .int u2), (4, .int u4), (5, .int u5)]) rfl (by rw [hy3]; rfl) dX12_hunt_85 rfl (by decide) rfl ?_
      refine fr_goto (n := 36) dX12_hunt_88 (by decide) ?_
      exact fr_sub [2, 3, 4, 5, 6, 0] rfl h
    · have h := h.2 hc
      refine fr_iload (q := 5) rfl dX12_hunt_60 rfl ?_
      refine fr_if_lt (tgt := 81) dX12_hunt_62 (by decide) rfl (fun hc => ?_) (fun hc => ?_)
      · have h := h.1 hc
        refine fr_iload (q := 6) rfl dX12_hunt_81 rfl ?_
        refine fr_istore (lv' := [(5, .int u6), (7, .int v1), (0, rf g o), (1, .int u1), (2, .int u2), (4, .int u4), (6, .int u6)]) dX12_hunt_83 rfl (by decide) rfl ?_
        obtain ⟨y4, hy4⟩ : ∃ y : Int32, y = u6 + 1 := ⟨_, rfl⟩
        have h := h y4 hy4
        refine fr_iinc (q := 6) (v := y4) (lv' := [(6, .int y4), (5, .int u6), (7, .int v1), (0, rf g o), (1, .int u1), (2, .int u2), (4, .int u4)]) rfl (by rw [hy4]; rfl) dX12_hunt_85 rfl (by decide) rfl ?_
        refine fr_goto (n := 36) dX12_hunt_88 (by decide) ?_
        exact fr_sub [3, 4, 5, 6, 1, 0] rfl h
      · have h := h.2 hc
        refine fr_iload (q := 0) rfl dX12_hunt_65 rfl ?_
        refine fr_aload_n (i := 0) (q := 1) rfl dX12_hunt_67 rfl ?_
        refine fr_iconst (v := 0) (by decide) dX12_hunt_68 rfl ?_
        refine fr_iload_n (i := 1) (q := 2) rfl dX12_hunt_69 rfl ?_
        refine fr_iload_n (i := 2) (q := 3) rfl dX12_hunt_70 rfl ?_
        refine fr_iload (q := 4) rfl dX12_hunt_71 rfl ?_
        refine fr_iload (q := 5) rfl dX12_hunt_73 rfl ?_
        obtain ⟨v5, hc6, h⟩ := h
        refine fr_callV2 (ν := mu_X12_turnsBehind) (st2 := [.int v5, .int v1]) (As := [.int 0, .int u1, .int u2, .int u4, .int u5]) (st := [.int v1]) (v := (some (.int v5))) (M1 := (Z, I, L)) dX12_hunt_75 rfl ml_X12_374 mo_X12_turnsBehind mi_X12_turnsBehind (ci := 12) rfl rfl k_o (Nat.le_of_ble_eq_true rfl) rfl rfl (Nat.le_of_ble_eq_true rfl) hc6 rfl ?_
        refine fr_icmp_ge (tgt := 85) dX12_hunt_78 (by decide) rfl (fun hc => ?_) (fun hc => ?_)
        · have h := h.1 hc
          obtain ⟨y7, hy7⟩ : ∃ y : Int32, y = u6 + 1 := ⟨_, rfl⟩
          have h := h y7 hy7
          refine fr_iinc (q := 6) (v := y7) (lv' := [(6, .int y7), (7, .int v1), (0, rf g o), (1, .int u1), (2, .int u2), (4, .int u4), (5, .int u5)]) rfl (by rw [hy7]; rfl) dX12_hunt_85 rfl (by decide) rfl ?_
          refine fr_goto (n := 36) dX12_hunt_88 (by decide) ?_
          exact fr_sub [2, 3, 4, 5, 6, 0] rfl h
        · have h := h.2 hc
          refine fr_iload (q := 6) rfl dX12_hunt_81 rfl ?_
          refine fr_istore (lv' := [(5, .int u6), (7, .int v1), (0, rf g o), (1, .int u1), (2, .int u2), (4, .int u4), (6, .int u6)]) dX12_hunt_83 rfl (by decide) rfl ?_
          obtain ⟨y8, hy8⟩ : ∃ y : Int32, y = u6 + 1 := ⟨_, rfl⟩
          have h := h y8 hy8
          refine fr_iinc (q := 6) (v := y8) (lv' := [(6, .int y8), (5, .int u6), (7, .int v1), (0, rf g o), (1, .int u1), (2, .int u2), (4, .int u4)]) rfl (by rw [hy8]; rfl) dX12_hunt_85 rfl (by decide) rfl ?_
          refine fr_goto (n := 36) dX12_hunt_88 (by decide) ?_
          exact fr_sub [3, 4, 5, 6, 1, 0] rfl h
theorem cp_X12_image {g : GE} {Z : Zs} {I : Nat → Nat → Int32} {L : Nat → Nat → Int64} {r : Option Value} {M' : Mem} {o : Nat} {o_a : Nat} {o_image : Nat} (k_o : KM Z o 12) (r_o_a : Z.2.1 o 0 = some o_a) (k_o_a : KM Z o_a 13) (r_o_image : Z.2.1 o 1 = some o_image) (k_o_image : KM Z o_image 13) (h : (∃ (I1 : Nat → Nat → Int32) (L2 : Nat → Nat → Int64), Cl g 1 mu_X12_copy [rf g o_a, rf g o_image] (Z, I, L) none (Z, I1, L2) ∧ (vp_in 0 (Z.2.2.1 o_a) ∧ (r = some (.int (I1 o_a (0 : Int32).toNatClampNeg)) ∧ M' = (Z, I1, L2))))) : Cl g 2 mu_X12_image [rf g o] (Z, I, L) r M' := by
  refine cl_of (lv := [(0, rf g o)]) (by decide) (Nat.le_of_ble_eq_true rfl) rfl ?_
  refine fr_aload_n (i := 0) (q := 0) rfl dX12_image_0 rfl ?_
  refine fr_getR dX12_image_1 rfl fl_X12_7 k_o r_o_a ?_
  refine fr_aload_n (i := 0) (q := 0) rfl dX12_image_4 rfl ?_
  refine fr_getR dX12_image_5 rfl fl_X12_13 k_o r_o_image ?_
  obtain ⟨I1, L2, hc3, h⟩ := h
  refine fr_callS2 (ν := mu_X12_copy) (st2 := []) (As := [rf g o_a, rf g o_image]) (st := []) (v := none) (M1 := (Z, I1, L2)) dX12_image_8 rfl ml_X12_91 mo_X12_copy ms_X12_copy (Nat.le_of_ble_eq_true rfl) rfl rfl (Nat.le_of_ble_eq_true rfl) hc3 rfl ?_
  refine fr_aload_n (i := 0) (q := 0) rfl dX12_image_11 rfl ?_
  refine fr_getR dX12_image_12 rfl fl_X12_7 k_o r_o_a ?_
  refine fr_iconst (v := 0) (by decide) dX12_image_15 rfl ?_
  obtain ⟨hz4, h⟩ := h
  refine fr_iald dX12_image_16 rfl k_o_a hz4 ?_
  exact fr_iret rfl dX12_image_17 h.1 h.2
theorem cp_X12_back {g : GE} {Z : Zs} {I : Nat → Nat → Int32} {L : Nat → Nat → Int64} {r : Option Value} {M' : Mem} {o : Nat} {o_image : Nat} {o_a : Nat} (k_o : KM Z o 12) (r_o_image : Z.2.1 o 1 = some o_image) (k_o_image : KM Z o_image 13) (r_o_a : Z.2.1 o 0 = some o_a) (k_o_a : KM Z o_a 13) (h : (∃ (I1 : Nat → Nat → Int32) (L2 : Nat → Nat → Int64), Cl g 1 mu_X12_copy [rf g o_image, rf g o_a] (Z, I, L) none (Z, I1, L2) ∧ (vp_in 0 (Z.2.2.1 o_a) ∧ (r = some (.int (I1 o_a (0 : Int32).toNatClampNeg)) ∧ M' = (Z, I1, L2))))) : Cl g 2 mu_X12_back [rf g o] (Z, I, L) r M' := by
  refine cl_of (lv := [(0, rf g o)]) (by decide) (Nat.le_of_ble_eq_true rfl) rfl ?_
  refine fr_aload_n (i := 0) (q := 0) rfl dX12_back_0 rfl ?_
  refine fr_getR dX12_back_1 rfl fl_X12_13 k_o r_o_image ?_
  refine fr_aload_n (i := 0) (q := 0) rfl dX12_back_4 rfl ?_
  refine fr_getR dX12_back_5 rfl fl_X12_7 k_o r_o_a ?_
  obtain ⟨I1, L2, hc3, h⟩ := h
  refine fr_callS2 (ν := mu_X12_copy) (st2 := []) (As := [rf g o_image, rf g o_a]) (st := []) (v := none) (M1 := (Z, I1, L2)) dX12_back_8 rfl ml_X12_91 mo_X12_copy ms_X12_copy (Nat.le_of_ble_eq_true rfl) rfl rfl (Nat.le_of_ble_eq_true rfl) hc3 rfl ?_
  refine fr_aload_n (i := 0) (q := 0) rfl dX12_back_11 rfl ?_
  refine fr_getR dX12_back_12 rfl fl_X12_7 k_o r_o_a ?_
  refine fr_iconst (v := 0) (by decide) dX12_back_15 rfl ?_
  obtain ⟨hz4, h⟩ := h
  refine fr_iald dX12_back_16 rfl k_o_a hz4 ?_
  exact fr_iret rfl dX12_back_17 h.1 h.2
theorem cp_X12_about {g : GE} {Z : Zs} {I : Nat → Nat → Int32} {L : Nat → Nat → Int64} {r : Option Value} {M' : Mem} {o : Nat} {x1 : Int32} {o_a : Nat} (k_o : KM Z o 12) (r_o_a : Z.2.1 o 0 = some o_a) (k_o_a : KM Z o_a 13) (h : (∃ (v1 : Int32), Cl g 1 mu_X12_isIn [.int x1, .int 10, .int (9 + ((I o 2) * (I o 3)))] (Z, I, L) (some (.int v1)) (Z, I, L) ∧ ((v1 = 0 → ((x1 < 0 ∨ 9 < x1 → (r = some (.int ((-2))) ∧ M' = (Z, I, L))) ∧ (x1 = 0 → (r = some (.int (I o 2)) ∧ M' = (Z, I, L))) ∧ (x1 = 1 → (r = some (.int (I o 3)) ∧ M' = (Z, I, L))) ∧ (x1 = 2 → (vp_in 0 (Z.2.2.1 o_a) ∧ (r = some (.int (I o_a (0 : Int32).toNatClampNeg)) ∧ M' = (Z, I, L)))) ∧ (x1 = 3 → (vp_in 1 (Z.2.2.1 o_a) ∧ (r = some (.int (I o_a (1 : Int32).toNatClampNeg)) ∧ M' = (Z, I, L)))) ∧ (x1 = 4 → (vp_in 2 (Z.2.2.1 o_a) ∧ (r = some (.int (I o_a (2 : Int32).toNatClampNeg)) ∧ M' = (Z, I, L)))) ∧ (x1 = 5 → (vp_in 3 (Z.2.2.1 o_a) ∧ (r = some (.int (I o_a (3 : Int32).toNatClampNeg)) ∧ M' = (Z, I, L)))) ∧ (x1 = 6 → (vp_in 4 (Z.2.2.1 o_a) ∧ (r = some (.int (I o_a (4 : Int32).toNatClampNeg)) ∧ M' = (Z, I, L)))) ∧ (x1 = 7 → (vp_in 5 (Z.2.2.1 o_a) ∧ (r = some (.int (I o_a (5 : Int32).toNatClampNeg)) ∧ M' = (Z, I, L)))) ∧ (x1 = 8 → (vp_in 6 (Z.2.2.1 o_a) ∧ (r = some (.int (I o_a (6 : Int32).toNatClampNeg)) ∧ M' = (Z, I, L)))) ∧ (x1 = 9 → (r = some (.int (I o 6)) ∧ M' = (Z, I, L))))) ∧ (¬ v1 = 0 → (vp_in ((10 + x1) - 10) (Z.2.2.1 o_a) ∧ (r = some (.int (I o_a ((10 + x1) - 10).toNatClampNeg)) ∧ M' = (Z, I, L))))))) : Cl g 2 mu_X12_about [rf g o, .int x1] (Z, I, L) r M' := by
  refine cl_of (lv := [(0, rf g o), (1, .int x1)]) (by decide) (Nat.le_of_ble_eq_true rfl) rfl ?_
  refine fr_iload_n (i := 1) (q := 1) rfl dX12_about_0 rfl ?_
  refine fr_bipush (v := 10) (by decide) dX12_about_1 rfl ?_
  refine fr_bipush (v := 9) (by decide) dX12_about_3 rfl ?_
  refine fr_aload_n (i := 0) (q := 0) rfl dX12_about_5 rfl ?_
  refine fr_getI dX12_about_6 rfl fl_X12_85 k_o ?_
  refine fr_aload_n (i := 0) (q := 0) rfl dX12_about_9 rfl ?_
  refine fr_getI dX12_about_10 rfl fl_X12_88 k_o ?_
  refine fr_imul dX12_about_13 rfl ?_
  refine fr_iadd dX12_about_14 rfl ?_
  obtain ⟨v1, hc2, h⟩ := h
  refine fr_callS2 (ν := mu_X12_isIn) (st2 := [.int v1]) (As := [.int x1, .int 10, .int (9 + ((I o 2) * (I o 3)))]) (st := []) (v := (some (.int v1))) (M1 := (Z, I, L)) dX12_about_15 rfl ml_X12_95 mo_X12_isIn ms_X12_isIn (Nat.le_of_ble_eq_true rfl) rfl rfl (Nat.le_of_ble_eq_true rfl) hc2 rfl ?_
  refine fr_if_eq (tgt := 34) dX12_about_18 (by decide) rfl (fun hc => ?_) (fun hc => ?_)
  · have h := h.1 hc
    refine fr_iload_n (i := 1) (q := 1) rfl dX12_about_34 rfl ?_
    rcases sw_cases (x := x1) (lo := 0) (hi := 9) (k := 9) (by decide) (by decide) with hs | ⟨kk, hkk, hs⟩
    · have h := h.1 hs
      refine fr_tabD (n := 153) dX12_about_35 hs (by decide) (by decide) (by decide) ?_
      refine fr_bipush (v := (-2)) (by decide) dX12_about_153 rfl ?_
      exact fr_iret rfl dX12_about_155 h.1 h.2
    · have h := h.2
      match kk, hkk, hs with
      | 0, _, hs =>
        have hs : x1 = 0 := hs.trans (by decide)
        have h := h.1 hs
        refine fr_tabK (n := 88) (y := 0) hs dX12_about_35 (by decide) (by decide) rfl (by decide) ?_
        refine fr_aload_n (i := 0) (q := 0) rfl dX12_about_88 rfl ?_
        refine fr_getI dX12_about_89 rfl fl_X12_85 k_o ?_
        exact fr_iret rfl dX12_about_92 h.1 h.2
      | 1, _, hs =>
        have hs : x1 = 1 := hs.trans (by decide)
        have h := h.2.1 hs
        refine fr_tabK (n := 93) (y := 1) hs dX12_about_35 (by decide) (by decide) rfl (by decide) ?_
        refine fr_aload_n (i := 0) (q := 0) rfl dX12_about_93 rfl ?_
        refine fr_getI dX12_about_94 rfl fl_X12_88 k_o ?_
        exact fr_iret rfl dX12_about_97 h.1 h.2
      | 2, _, hs =>
        have hs : x1 = 2 := hs.trans (by decide)
        have h := h.2.2.1 hs
        refine fr_tabK (n := 98) (y := 2) hs dX12_about_35 (by decide) (by decide) rfl (by decide) ?_
        refine fr_aload_n (i := 0) (q := 0) rfl dX12_about_98 rfl ?_
        refine fr_getR dX12_about_99 rfl fl_X12_7 k_o r_o_a ?_
        refine fr_iconst (v := 0) (by decide) dX12_about_102 rfl ?_
        obtain ⟨hz3, h⟩ := h
        refine fr_iald dX12_about_103 rfl k_o_a hz3 ?_
        exact fr_iret rfl dX12_about_104 h.1 h.2
      | 3, _, hs =>
        have hs : x1 = 3 := hs.trans (by decide)
        have h := h.2.2.2.1 hs
        refine fr_tabK (n := 105) (y := 3) hs dX12_about_35 (by decide) (by decide) rfl (by decide) ?_
        refine fr_aload_n (i := 0) (q := 0) rfl dX12_about_105 rfl ?_
        refine fr_getR dX12_about_106 rfl fl_X12_7 k_o r_o_a ?_
        refine fr_iconst (v := 1) (by decide) dX12_about_109 rfl ?_
        obtain ⟨hz4, h⟩ := h
        refine fr_iald dX12_about_110 rfl k_o_a hz4 ?_
        exact fr_iret rfl dX12_about_111 h.1 h.2
      | 4, _, hs =>
        have hs : x1 = 4 := hs.trans (by decide)
        have h := h.2.2.2.2.1 hs
        refine fr_tabK (n := 112) (y := 4) hs dX12_about_35 (by decide) (by decide) rfl (by decide) ?_
        refine fr_aload_n (i := 0) (q := 0) rfl dX12_about_112 rfl ?_
        refine fr_getR dX12_about_113 rfl fl_X12_7 k_o r_o_a ?_
        refine fr_iconst (v := 2) (by decide) dX12_about_116 rfl ?_
        obtain ⟨hz5, h⟩ := h
        refine fr_iald dX12_about_117 rfl k_o_a hz5 ?_
        exact fr_iret rfl dX12_about_118 h.1 h.2
      | 5, _, hs =>
        have hs : x1 = 5 := hs.trans (by decide)
        have h := h.2.2.2.2.2.1 hs
        refine fr_tabK (n := 119) (y := 5) hs dX12_about_35 (by decide) (by decide) rfl (by decide) ?_
        refine fr_aload_n (i := 0) (q := 0) rfl dX12_about_119 rfl ?_
        refine fr_getR dX12_about_120 rfl fl_X12_7 k_o r_o_a ?_
        refine fr_iconst (v := 3) (by decide) dX12_about_123 rfl ?_
        obtain ⟨hz6, h⟩ := h
        refine fr_iald dX12_about_124 rfl k_o_a hz6 ?_
        exact fr_iret rfl dX12_about_125 h.1 h.2
      | 6, _, hs =>
        have hs : x1 = 6 := hs.trans (by decide)
        have h := h.2.2.2.2.2.2.1 hs
        refine fr_tabK (n := 126) (y := 6) hs dX12_about_35 (by decide) (by decide) rfl (by decide) ?_
        refine fr_aload_n (i := 0) (q := 0) rfl dX12_about_126 rfl ?_
        refine fr_getR dX12_about_127 rfl fl_X12_7 k_o r_o_a ?_
        refine fr_iconst (v := 4) (by decide) dX12_about_130 rfl ?_
        obtain ⟨hz7, h⟩ := h
        refine fr_iald dX12_about_131 rfl k_o_a hz7 ?_
        exact fr_iret rfl dX12_about_132 h.1 h.2
      | 7, _, hs =>
        have hs : x1 = 7 := hs.trans (by decide)
        have h := h.2.2.2.2.2.2.2.1 hs
        refine fr_tabK (n := 133) (y := 7) hs dX12_about_35 (by decide) (by decide) rfl (by decide) ?_
        refine fr_aload_n (i := 0) (q := 0) rfl dX12_about_133 rfl ?_
        refine fr_getR dX12_about_134 rfl fl_X12_7 k_o r_o_a ?_
        refine fr_iconst (v := 5) (by decide) dX12_about_137 rfl ?_
        obtain ⟨hz8, h⟩ := h
        refine fr_iald dX12_about_138 rfl k_o_a hz8 ?_
        exact fr_iret rfl dX12_about_139 h.1 h.2
      | 8, _, hs =>
        have hs : x1 = 8 := hs.trans (by decide)
        have h := h.2.2.2.2.2.2.2.2.1 hs
        refine fr_tabK (n := 140) (y := 8) hs dX12_about_35 (by decide) (by decide) rfl (by decide) ?_
        refine fr_aload_n (i := 0) (q := 0) rfl dX12_about_140 rfl ?_
        refine fr_getR dX12_about_141 rfl fl_X12_7 k_o r_o_a ?_
        refine fr_bipush (v := 6) (by decide) dX12_about_144 rfl ?_
        obtain ⟨hz9, h⟩ := h
        refine fr_iald dX12_about_146 rfl k_o_a hz9 ?_
        exact fr_iret rfl dX12_about_147 h.1 h.2
      | 9, _, hs =>
        have hs : x1 = 9 := hs.trans (by decide)
        have h := h.2.2.2.2.2.2.2.2.2 hs
        refine fr_tabK (n := 148) (y := 9) hs dX12_about_35 (by decide) (by decide) rfl (by decide) ?_
        refine fr_aload_n (i := 0) (q := 0) rfl dX12_about_148 rfl ?_
        refine fr_getI dX12_about_149 rfl fl_X12_116 k_o ?_
        exact fr_iret rfl dX12_about_152 h.1 h.2
      | kk + 10, hkk, _ => exact absurd hkk (by omega)
  · have h := h.2 hc
    refine fr_aload_n (i := 0) (q := 0) rfl dX12_about_21 rfl ?_
    refine fr_getR dX12_about_22 rfl fl_X12_7 k_o r_o_a ?_
    refine fr_bipush (v := 10) (by decide) dX12_about_25 rfl ?_
    refine fr_iload_n (i := 1) (q := 1) rfl dX12_about_27 rfl ?_
    refine fr_iadd dX12_about_28 rfl ?_
    refine fr_bipush (v := 10) (by decide) dX12_about_29 rfl ?_
    refine fr_isub dX12_about_31 rfl ?_
    obtain ⟨hz10, h⟩ := h
    refine fr_iald dX12_about_32 rfl k_o_a hz10 ?_
    exact fr_iret rfl dX12_about_33 h.1 h.2
