/-! the strings that the class spells its words with -/
theorem wS_38 : Cond.fieldLink RJ0 38 "java/lang/String" "COMPACT_STRINGS" "Z" ∈ TB := in_TB (List.mem_of_getElem? (i := 559) (by decide +kernel)) (by decide +kernel)
theorem wS_1053 : Cond.fieldLink RJ0 1053 "jdk/internal/util/Preconditions" "SIOOBE_FORMATTER" "Ljava/util/function/BiFunction;" ∈ TB := in_TB (List.mem_of_getElem? (i := 575) (by decide +kernel)) (by decide +kernel)
theorem wS_9 : Cond.fieldLink RJ0 9 "java/lang/String" "value" "[B" ∈ TB := in_TB (List.mem_of_getElem? (i := 1709) (by decide +kernel)) (by decide +kernel)
theorem wS_15 : Cond.fieldLink RJ0 15 "java/lang/String" "coder" "B" ∈ TB := in_TB (List.mem_of_getElem? (i := 1710) (by decide +kernel)) (by decide +kernel)
section STR
variable {g : GE} {d : Nat} {μ : MD} {pc n tgt i : Nat} {lv lv' : List (Nat × Value)} {st st' stk : List Value} {M M1 M' : Mem} {r : Option Value}
theorem fr_sval (hi : i < 20) {idx : Nat} (hd : decode μ.2.1 pc = .ok (.getfield idx, 3)) (hn : pc + 3 = n) (hw : Cond.fieldLink μ.1.cls idx "java/lang/String" "value" "[B" ∈ TB) (kk : Fr g d μ n lv (.ref (gV g i) :: st) M r M') : Fr g d μ pc lv (.ref (gK g i) :: st) M r M' := by
  subst hn
  refine ⟨kk.1, fun p e s m args below meth c R x0 s0 H locs cells slots ls hC hS hl => ?_⟩
  obtain ⟨hx, hb, hml, hown, hts, hrt, hlk, hnm, hdf, hdl, hrc, hrs, hsz, hK, hSK⟩ := id hC
  exact vk_getf hx hb (hSK.2.2.2.2.1.1 i hi).2.2.1 hS.2.2.2 hown (hts _ hw) (fun _ h => h) hd (kk.2 p e s m args below meth c R x0 s0 H locs cells slots ls hC hS hl)
theorem fr_scod (hi : i < 20) {idx : Nat} (hd : decode μ.2.1 pc = .ok (.getfield idx, 3)) (hn : pc + 3 = n) (hw : Cond.fieldLink μ.1.cls idx "java/lang/String" "coder" "B" ∈ TB) (kk : Fr g d μ n lv (.int 0 :: st) M r M') : Fr g d μ pc lv (.ref (gK g i) :: st) M r M' := by
  subst hn
  refine ⟨kk.1, fun p e s m args below meth c R x0 s0 H locs cells slots ls hC hS hl => ?_⟩
  obtain ⟨hx, hb, hml, hown, hts, hrt, hlk, hnm, hdf, hdl, hrc, hrs, hsz, hK, hSK⟩ := id hC
  exact vk_getf hx hb (hSK.2.2.2.2.1.1 i hi).2.1 hS.2.2.2 hown (hts _ hw) (fun _ h => h) hd (kk.2 p e s m args below meth c R x0 s0 H locs cells slots ls hC hS hl)
theorem fr_scst {idx : Nat} (hd : decode μ.2.1 pc = .ok (.getstatic idx, 3)) (hn : pc + 3 = n) (hw : Cond.fieldLink μ.1.cls idx "java/lang/String" "COMPACT_STRINGS" "Z" ∈ TB) (kk : Fr g d μ n lv (.int 1 :: st) M r M') : Fr g d μ pc lv st M r M' := by
  subst hn
  refine ⟨kk.1, fun p e s m args below meth c R x0 s0 H locs cells slots ls hC hS hl => ?_⟩
  obtain ⟨hx, hb, hml, hown, hts, hrt, hlk, hnm, hdf, hdl, hrc, hrs, hsz, hK, hSK⟩ := id hC
  exact va_gets hx hb hSK.2.2.2.2.2.2 hS.2.2.2 hown (hts _ hw) (fun _ h => h) hd (kk.2 p e s m args below meth c R x0 s0 H locs cells slots ls hC hS hl)
theorem fr_sfmt {idx : Nat} (hd : decode μ.2.1 pc = .ok (.getstatic idx, 3)) (hn : pc + 3 = n) (hw : Cond.fieldLink μ.1.cls idx "jdk/internal/util/Preconditions" "SIOOBE_FORMATTER" "Ljava/util/function/BiFunction;" ∈ TB) (kk : ∀ v : Value, (v = .null ∨ ∃ t : Nat, v = .ref t) → Fr g d μ n lv (v :: st) M r M') : Fr g d μ pc lv st M r M' := by
  subst hn
  refine ⟨(kk .null (Or.inl rfl)).1, fun p e s m args below meth c R x0 s0 H locs cells slots ls hC hS hl => ?_⟩
  obtain ⟨hx, hb, hml, hown, hts, hrt, hlk, hnm, hdf, hdl, hrc, hrs, hsz, hK, hSK⟩ := id hC
  rcases hSK.2.2.2.1 with h | ⟨t, h⟩
  · exact va_gets hx hb h hS.2.2.2 hown (hts _ hw) (fun _ h => h) hd ((kk .null (Or.inl rfl)).2 p e s m args below meth c R x0 s0 H locs cells slots ls hC hS hl)
  · exact va_gets hx hb h hS.2.2.2 hown (hts _ hw) (fun _ h => h) hd ((kk (.ref t) (Or.inr ⟨t, rfl⟩)).2 p e s m args below meth c R x0 s0 H locs cells slots ls hC hS hl)
theorem fr_slen (hi : i < 20) (hd : decode μ.2.1 pc = .ok (.arraylength, 1)) (hn : pc + 1 = n) (kk : Fr g d μ n lv (.int (nI (lenL.getD i 0)) :: st) M r M') : Fr g d μ pc lv (.ref (gV g i) :: st) M r M' := by
  subst hn
  refine ⟨kk.1, fun p e s m args below meth c R x0 s0 H locs cells slots ls hC hS hl => ?_⟩
  obtain ⟨hx, hb, hml, hown, hts, hrt, hlk, hnm, hdf, hdl, hrc, hrs, hsz, hK, hSK⟩ := id hC
  exact va_tlen hx hb (hSK.2.2.2.2.1.1 i hi).2.2.2 hS.2.2.2 rfl hd (kk.2 p e s m args below meth c R x0 s0 H locs cells slots ls hC hS hl)
theorem fr_sbal (hi : i < 20) {x : Int32} (hd : decode μ.2.1 pc = .ok (.baload, 1)) (hn : pc + 1 = n) (hin : vp_in x (lenL.getD i 0)) (kk : Fr g d μ n lv (.int ((bytL.getD i []).getD x.toNatClampNeg 0) :: st) M r M') : Fr g d μ pc lv (.int x :: .ref (gV g i) :: st) M r M' := by
  subst hn
  refine ⟨kk.1, fun p e s m args below meth c R x0 s0 H locs cells slots ls hC hS hl => ?_⟩
  obtain ⟨hx, hb, hml, hown, hts, hrt, hlk, hnm, hdf, hdl, hrc, hrs, hsz, hK, hSK⟩ := id hC
  exact va_tb hx hb (hSK.2.2.2.2.1.1 i hi).2.2.2 hS.2.2.2 hin rfl hd (kk.2 p e s m args below meth c R x0 s0 H locs cells slots ls hC hS hl)
theorem fr_i2c {x v : Int32} (hv : (x.toUInt32 % 65536).toInt32 = v) (hd : decode μ.2.1 pc = .ok (.i2c, 1)) (hn : pc + 1 = n) (k : Fr g d μ n lv (.int v :: st) M r M') : Fr g d μ pc lv (.int x :: st) M r M' := by
  subst hn
  exact fr_pure (fun p e s m args below meth c R H locs cells slots ls Q hx hb hl hown hts kk => lv_i2c hx hb hd hv kk) k
theorem fr_nret {v : Int32} {ty : FieldType} (hv : narrow ty (.int v) = .int v) (ht : μ.2.2.2 = some ty) (hd : decode μ.2.1 pc = .ok (.ireturn, 1)) (hr : r = some (.int v)) (hM : M' = M) : Fr g d μ pc lv [.int v] M r M' := by
  subst hr; subst hM
  refine ⟨Ext.rf _, fun p e s m args below meth c R x0 s0 H locs cells slots ls hC hS hl => ?_⟩
  obtain ⟨hx, hb, hml, hown, hts, hrt, hlk, hnm, hdf, hdl, hrc, hrs, hsz, hK, hSK⟩ := id hC
  have e1 : mx M' - x0 = cells := by have := hS.1; omega
  have e2 : ms M' - s0 = slots := by have := hS.2.1; omega
  rw [e1, e2]
  exact W.zret hx hb (hrt.trans ht) hv (fun t ht hW => ⟨rfl, by rw [ht]; exact hS.2.2.1, hS.2.2.2.F ht⟩) (fun q hq => hS.2.2.2.2.2 q hq) hd hlk
theorem fr_callK {ν : MD} {idx dc k : Nat} {As : List Value} {v : Option Value} (hi : i < 20) (hd : decode μ.2.1 pc = .ok (.invokevirtual idx, 3)) (hn : pc + 3 = n) (hw : Cond.methodLink μ.1.cls idx ν.1 ∈ TB) (hO : MO ν k) (hO2 : Cond.instanceMethod ν.1 ∈ TB ∧ Cond.selects ν.1.cls ν.1 ν.1 ∈ TB) (hqc : ν.1.cls = "java/lang/String") (hdc : dc + 1 ≤ d) (hs : stk = As.reverse ++ .ref (gK g i) :: st) (hlen : As.length = k) (hcat : (st.map fun v => v.category).sum ≤ 8) (hCl : Cl g dc ν (.ref (gK g i) :: As) M v M1) (kk : Fr g d μ n lv (v.toList ++ st) M1 r M') : Fr g d μ pc lv stk M r M' := by
  refine ⟨hCl.1.tr kk.1, fun p e s m args below meth c R x0 s0 H locs cells slots ls hC hS hl => ?_⟩
  refine W_sz (fun hz => ?_)
  obtain ⟨hx, hb, hml, hown, hts, hret, hlk, hnm, hdf, hdl, hrc, hrs, hsz, hK, hSK⟩ := id hC
  obtain ⟨o1, o2, o3, o4, o5, o6⟩ := id hO
  have k1 := kk.1.1
  have k2 := kk.1.2.1
  have c1 := hCl.1.1
  have c2 := hCl.1.2.1
  have g3 := hS.1
  have g4 := hS.2.1
  have hcw : CallW R s args μ.1.cls "java/lang/String" idx ν.1 ν.2.1 ν.2.2.1 ν.2.2.2 (wsM ν) (rmD dc M M1) (mx M1 - mx M) (ms M1 - ms M) k := by
    refine ⟨callB_of k hts (wsM_good hO) rfl rfl rfl (hts _ o2) (hts _ hw) ⟨o4, o5, o6⟩ ⟨?_, ?_⟩, hts _ hO2.1, ?_⟩
    · show dc + 1 ≤ R.frames; omega
    · show 8 + (ν.2.2.1 + 11) + 41 * dc ≤ R.locals; omega
    · rw [← hqc]; exact hts _ hO2.2
  refine Fr_behind (ν := ν) hCl.1 kk hC hS hl hn (va_runV (As := As) (rest := st) ⟨hx, hb, hml, hown, hts⟩ hCl.2 hcw ⟨PcG_blind g _ M, vk_recv hSK.2.2.2.2.1 hi hS.2.2.2, Pc_now hC hS hz⟩ rfl hlen hl.1 hs (lv_room hcat) hd ⟨by omega, by omega⟩)
end STR
section STR2
variable {g : GE} {Z : Zs} {I : Nat → Nat → Int32} {L : Nat → Nat → Int64} {i : Nat} {M : Mem}
theorem ks_coder (hi : i < 20) : Cl g 1 mu_J0_coder_7d493 [.ref (gK g i)] M (some (.int 0)) M := by
  refine cl_of (lv := [(0, .ref (gK g i))]) (by decide) (Nat.le_of_ble_eq_true rfl) rfl ?_
  refine fr_scst dJ0_coder_7d493_0 rfl wS_38 ?_
  refine fr_if_eq (tgt := 13) dJ0_coder_7d493_3 (by decide) rfl (fun hc => absurd hc (by decide)) (fun _ => ?_)
  refine fr_aload_n (i := 0) (q := 0) rfl dJ0_coder_7d493_6 rfl ?_
  refine fr_scod hi dJ0_coder_7d493_7 rfl wS_15 ?_
  refine fr_goto (n := 14) dJ0_coder_7d493_10 (by decide) ?_
  exact fr_nret (ty := .byte) (by decide) rfl dJ0_coder_7d493_14 rfl rfl
theorem ks_isLatin1 (hi : i < 20) : Cl g 1 mu_J0_isLatin1_aae02 [.ref (gK g i)] M (some (.int 1)) M := by
  refine cl_of (lv := [(0, .ref (gK g i))]) (by decide) (Nat.le_of_ble_eq_true rfl) rfl ?_
  refine fr_scst dJ0_isLatin1_aae02_0 rfl wS_38 ?_
  refine fr_if_eq (tgt := 17) dJ0_isLatin1_aae02_3 (by decide) rfl (fun hc => absurd hc (by decide)) (fun _ => ?_)
  refine fr_aload_n (i := 0) (q := 0) rfl dJ0_isLatin1_aae02_6 rfl ?_
  refine fr_scod hi dJ0_isLatin1_aae02_7 rfl wS_15 ?_
  refine fr_if_ne (tgt := 17) dJ0_isLatin1_aae02_10 (by decide) rfl (fun hc => absurd rfl hc) (fun _ => ?_)
  refine fr_iconst (v := 1) (by decide) dJ0_isLatin1_aae02_13 rfl ?_
  refine fr_goto (n := 18) dJ0_isLatin1_aae02_14 (by decide) ?_
  exact fr_zret (Or.inr rfl) rfl dJ0_isLatin1_aae02_18 rfl rfl
theorem lenL_lt : ∀ i, i < 20 → lenL.getD i 0 < 8 := by decide
theorem ks_length (hi : i < 20) : Cl g 2 mu_J0_length_8abf5 [.ref (gK g i)] M (some (.int (nI (lenL.getD i 0)))) M := by
  refine cl_of (lv := [(0, .ref (gK g i))]) (by decide) (Nat.le_of_ble_eq_true rfl) rfl ?_
  refine fr_aload_n (i := 0) (q := 0) rfl dJ0_length_8abf5_0 rfl ?_
  refine fr_sval hi dJ0_length_8abf5_1 rfl wS_9 ?_
  refine fr_slen hi dJ0_length_8abf5_4 rfl ?_
  refine fr_aload_n (i := 0) (q := 0) rfl dJ0_length_8abf5_5 rfl ?_
  refine fr_callK (ν := mu_J0_coder_7d493) (As := []) (st := [.int (nI (lenL.getD i 0))]) (v := some (.int 0)) (M1 := M) hi dJ0_length_8abf5_6 rfl ml_J0_335 mo_J0_coder_7d493 mi_J0_coder_7d493 rfl (Nat.le_of_ble_eq_true rfl) rfl rfl (Nat.le_of_ble_eq_true rfl) (ks_coder hi) ?_
  refine fr_ishr dJ0_length_8abf5_9 rfl ?_
  refine fr_iret rfl dJ0_length_8abf5_10 ?_ rfl
  rw [sc_shr0 (by have := lenL_lt i hi; omega)]
theorem ks_checkIndex3 {x y : Int32} {v : Value} (hv : v = .null ∨ ∃ t : Nat, v = .ref t) (h0 : ¬ x < 0) (h1 : x < y) : Cl g 1 mu_J3_checkIndex_8e157 [.int x, .int y, v] M (some (.int x)) M := by
  have hlen : (lg_sl [.int x, .int y, v]).length ≤ 3 := by
    rcases hv with rfl | ⟨t, rfl⟩ <;> exact Nat.le_of_ble_eq_true rfl
  have hlv : lv_args 0 [.int x, .int y, v] = [(0, .int x), (1, .int y), (2, v)] := by
    rcases hv with rfl | ⟨t, rfl⟩ <;> rfl
  refine cl_of (lv := [(0, .int x), (1, .int y), (2, v)]) (by decide) hlen hlv ?_
  refine fr_iload_n (i := 0) (q := 0) rfl dJ3_checkIndex_8e157_0 rfl ?_
  refine fr_if_lt (tgt := 9) dJ3_checkIndex_8e157_1 (by decide) rfl (fun hc => absurd hc h0) (fun _ => ?_)
  refine fr_iload_n (i := 0) (q := 0) rfl dJ3_checkIndex_8e157_4 rfl ?_
  refine fr_iload_n (i := 1) (q := 1) rfl dJ3_checkIndex_8e157_5 rfl ?_
  refine fr_icmp_lt (tgt := 16) dJ3_checkIndex_8e157_6 (by decide) rfl (fun _ => ?_) (fun hc => absurd h1 hc)
  refine fr_iload_n (i := 0) (q := 0) rfl dJ3_checkIndex_8e157_16 rfl ?_
  exact fr_iret rfl dJ3_checkIndex_8e157_17 rfl rfl
theorem ks_checkIndex {x y : Int32} (h0 : ¬ x < 0) (h1 : x < y) : Cl g 2 mu_J0_checkIndex_df160 [.int x, .int y] M none M := by
  refine cl_of (lv := [(0, .int x), (1, .int y)]) (by decide) (Nat.le_of_ble_eq_true rfl) rfl ?_
  refine fr_iload_n (i := 0) (q := 0) rfl dJ0_checkIndex_df160_0 rfl ?_
  refine fr_iload_n (i := 1) (q := 1) rfl dJ0_checkIndex_df160_1 rfl ?_
  refine fr_sfmt dJ0_checkIndex_df160_2 rfl wS_1053 (fun v hv => ?_)
  refine fr_callS (ν := mu_J3_checkIndex_8e157) (As := [.int x, .int y, v]) (st := []) (v := some (.int x)) (M1 := M) dJ0_checkIndex_df160_5 rfl ml_J0_1059 mo_J3_checkIndex_8e157 ms_J3_checkIndex_8e157 (Nat.le_of_ble_eq_true rfl) rfl rfl (Nat.le_of_ble_eq_true rfl) (ks_checkIndex3 hv h0 h1) ?_
  refine fr_pop (v := .int x) rfl dJ0_checkIndex_df160_8 rfl ?_
  exact fr_vret rfl dJ0_checkIndex_df160_9 rfl rfl
/-- the words in bytes -/
def spL : List (List Nat) := [[116, 97, 112], [104, 101, 97, 100, 105, 110, 103], [120], [121], [104, 101, 114, 101], [97, 104, 101, 97, 100], [114, 105, 100, 101, 114], [99, 97, 114, 114, 105, 101, 114], [115, 105, 103, 104, 116], [112, 97, 99, 101], [97, 115, 107, 115], [100, 111, 101, 115], [102, 101, 97, 114, 115], [108, 105, 107, 101, 115], [105, 102], [101, 110, 100], [111, 114], [97, 110, 100], [110, 111, 116], []]
theorem spL_byt : ∀ i, i < 20 → ∀ j, j < 8 → j < lenL.getD i 0 → (bytL.getD i []).getD j 0 &&& 255 = nI ((spL.getD i []).getD j 0) ∧ ((nI ((spL.getD i []).getD j 0)).toUInt32 % 65536).toInt32 = nI ((spL.getD i []).getD j 0) ∧ (spL.getD i []).getD j 0 < 256 := by decide +kernel
theorem spL_len : ∀ i, i < 20 → (spL.getD i []).length = lenL.getD i 0 := by decide
theorem ks_charAt1 (hi : i < 20) {j : Nat} (hj : j < lenL.getD i 0) : Cl g 3 mu_J1_charAt_3b067 [.ref (gV g i), .int (nI j)] M (some (.int (nI ((spL.getD i []).getD j 0)))) M := by
  have h8 := lenL_lt i hi
  obtain ⟨b1, b2, b3⟩ := spL_byt i hi j (by omega) hj
  refine cl_of (lv := [(0, .ref (gV g i)), (1, .int (nI j))]) (by decide) (Nat.le_of_ble_eq_true rfl) rfl ?_
  refine fr_iload_n (i := 1) (q := 1) rfl dJ1_charAt_3b067_0 rfl ?_
  refine fr_aload_n (i := 0) (q := 0) rfl dJ1_charAt_3b067_1 rfl ?_
  refine fr_slen hi dJ1_charAt_3b067_2 rfl ?_
  refine fr_callS (ν := mu_J0_checkIndex_df160) (As := [.int (nI j), .int (nI (lenL.getD i 0))]) (st := []) (v := none) (M1 := M) dJ1_charAt_3b067_3 rfl ml_J1_9 mo_J0_checkIndex_df160 ms_J0_checkIndex_df160 (Nat.le_of_ble_eq_true rfl) rfl rfl (Nat.le_of_ble_eq_true rfl) (ks_checkIndex (nI_pos (by omega)) (nI_lt hj (by omega))) ?_
  refine fr_aload_n (i := 0) (q := 0) rfl dJ1_charAt_3b067_6 rfl ?_
  refine fr_iload_n (i := 1) (q := 1) rfl dJ1_charAt_3b067_7 rfl ?_
  refine fr_sbal hi dJ1_charAt_3b067_8 rfl (vp_in_nI hj (by omega)) ?_
  rw [nI_clamp (by omega)]
  refine fr_sipush (v := 255) (by decide) dJ1_charAt_3b067_9 rfl ?_
  refine fr_iand dJ1_charAt_3b067_12 rfl ?_
  rw [b1]
  refine fr_i2c b2 dJ1_charAt_3b067_13 rfl ?_
  exact fr_nret (ty := .char) (pk_charN (by omega)).1 rfl dJ1_charAt_3b067_14 rfl rfl
theorem ks_charAt (hi : i < 20) {j : Nat} (hj : j < lenL.getD i 0) : Cl g 4 mu_J0_charAt_5068e [.ref (gK g i), .int (nI j)] M (some (.int (nI ((spL.getD i []).getD j 0)))) M := by
  have h8 := lenL_lt i hi
  obtain ⟨b1, b2, b3⟩ := spL_byt i hi j (by omega) hj
  refine cl_of (lv := [(0, .ref (gK g i)), (1, .int (nI j))]) (by decide) (Nat.le_of_ble_eq_true rfl) rfl ?_
  refine fr_aload_n (i := 0) (q := 0) rfl dJ0_charAt_5068e_0 rfl ?_
  refine fr_callK (ν := mu_J0_isLatin1_aae02) (As := []) (st := []) (v := some (.int 1)) (M1 := M) hi dJ0_charAt_5068e_1 rfl ml_J0_492 mo_J0_isLatin1_aae02 mi_J0_isLatin1_aae02 rfl (Nat.le_of_ble_eq_true rfl) rfl rfl (Nat.le_of_ble_eq_true rfl) (ks_isLatin1 hi) ?_
  refine fr_if_eq (tgt := 16) dJ0_charAt_5068e_4 (by decide) rfl (fun hc => absurd hc (by decide)) (fun _ => ?_)
  refine fr_aload_n (i := 0) (q := 0) rfl dJ0_charAt_5068e_7 rfl ?_
  refine fr_sval hi dJ0_charAt_5068e_8 rfl wS_9 ?_
  refine fr_iload_n (i := 1) (q := 1) rfl dJ0_charAt_5068e_11 rfl ?_
  refine fr_callS (ν := mu_J1_charAt_3b067) (As := [.ref (gV g i), .int (nI j)]) (st := []) (v := some (.int (nI ((spL.getD i []).getD j 0)))) (M1 := M) dJ0_charAt_5068e_12 rfl ml_J0_495 mo_J1_charAt_3b067 ms_J1_charAt_3b067 (Nat.le_of_ble_eq_true rfl) rfl rfl (Nat.le_of_ble_eq_true rfl) (ks_charAt1 hi hj) ?_
  exact fr_nret (ty := .char) (pk_charN (by omega)).1 rfl dJ0_charAt_5068e_15 rfl rfl
end STR2
