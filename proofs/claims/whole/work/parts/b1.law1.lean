/-! the law's calls -/
section LAWC
variable {g : GE} {p : Program} {e : Env} {s : State} {m : MethodId} {below : List Frame} {meth : Method} {c : Code} {b L : Nat} {xs : Nat → Int32} {pc n tgt : Nat} {lv lv' : List (Nat × Value)} {st st' stk : List Value} {M M1 : Mem}
theorem lw_new (C : LCw g p s m meth c b L xs) {idx ci nf : Nat} (hd : decode code pc = .ok (.new idx, 3)) (hn : pc + 3 = n) (hN : NL RL idx ci nf) (b1 : mx M + 1 ≤ room_1.cells) (b2 : ms M + nf ≤ room_1.slots) (kk : Lw g p e s m below meth c b n lv (rf g (mx M) :: st) (nw M ci nf)) : Lw g p e s m below meth c b pc lv st M := by
  subst hn
  intro H locs cells slots ls hS hl
  obtain ⟨q, hq, rfl, w1, w2, w3⟩ := hN
  obtain ⟨hlt, c1, c2, c3, ty0, c4, c5⟩ := cls_ok hq
  obtain ⟨hx, hb, hml, hown, hts, hret, hlk, hX, hbl, hsz, hK, hSK⟩ := id C
  have hlow := Sd_low hS (by rw [hsz]; rfl)
  have h1 := hS.1
  have h2 := hS.2.1
  have hfs : ∀ j, j < q.2.2 → defaultValue (ty0 j) = vp_V (fs g (nw M ci q.2.2) (mx M) ci) j := by
    intro j hj
    rw [c5 j hj]
    have hjl : j < (kd ci).length := by rw [c2]; exact hj
    have hk : (kd ci)[j]? = some ((kd ci).getD j 0) := by simp [List.getD, List.getElem?_eq_getElem hjl]
    obtain ⟨kv, hkv⟩ : ∃ kv, (kd ci).getD j 0 = kv := ⟨_, rfl⟩
    rw [hkv] at hk ⊢
    unfold vp_V
    rw [List.getD_eq_getElem?_getD, fs_at hk, Option.getD_some]
    unfold fv
    have z1 : mI (nw M ci q.2.2) (mx M) = fun _ => 0 := rw1_s _ _ _
    have z2 : mL (nw M ci q.2.2) (mx M) = fun _ => 0 := rw1_s _ _ _
    have z3 : mR (nw M ci q.2.2) (mx M) = fun _ => none := rw1_s _ _ _
    rw [z1, z2, z3]
    match kv with
    | 0 => rfl
    | 1 => rfl
    | _ + 2 => rfl
  refine va_new (C := q.1) (T := q.2.1) (N := q.2.2) (fs := fs g (nw M ci q.2.2) (mx M) ci) hx hb hts c1 ty0 c4 hown (hts _ w1) (hts _ w2) (hts _ w3) hK hS.2.2.1 (wsO_D g M) hS.2.2.2 (fun a ha => by show gb g ≤ a; omega) hq hfs (by omega) (by omega) hd (fun a H1 hP1 hD1 hS1 => ?_)
  refine W_sz (fun hz => ?_)
  have ha1 : a < H1.size := (hP1 (wsO g M).length (a, .inr (ci, fs g (nw M ci q.2.2) (mx M) ci)) (by simp)).lt
  have ha2 : gb g ≤ a := hD1.2 (wsO g M).length (a, .inr (ci, fs g (nw M ci q.2.2) (mx M) ci)) (by simp)
  have hlen : (wsO g M).length = mx M := by unfold wsO; simp
  have ha3 : ¬ a < gb g + mx M := by
    intro hlt2
    have hk : (wsO g M)[a - gb g]? = some (gb g + (a - gb g), ce g M (a - gb g)) := wsO_get (by omega)
    have h3 : (wsO g M ++ [(a, Sum.inr (ci, fs g (nw M ci q.2.2) (mx M) ci))])[a - gb g]? = some (gb g + (a - gb g), ce g M (a - gb g)) := by
      rw [List.getElem?_append_left (by omega)]; exact hk
    have h4 := hD1.1 (a - gb g) (wsO g M).length _ (a, .inr (ci, fs g (nw M ci q.2.2) (mx M) ci)) h3 (by simp) (by show gb g + (a - gb g) = a; omega)
    omega
  have hae : a = gb g + mx M := by omega
  subst hae
  have e1 : mx (nw M ci q.2.2) = mx M + 1 := rfl
  have e2 : ms (nw M ci q.2.2) = ms M + q.2.2 := rfl
  refine kk H1 locs (cells + 1) (slots + q.2.2) ls ⟨by omega, by omega, ?_, hS1⟩ hl
  rw [← wsO_push (e := .inr (ci, fs g (nw M ci q.2.2) (mx M) ci)) (ce_o (show mT (nw M ci q.2.2) (mx M) = ci from rw1_s _ _ _) hlt) (fun b hb => ce_nw b hb)]
  exact hP1
theorem lw_behind {As : Array Value} {v : Option Value} (hE : Ext M M1) (kk : Lw g p e s m below meth c b n lv (v.toList ++ st) M1) {H : Heap} {locs : List Loc} {cells slots : Nat} {ls : Array Slot} (hS : Sd g M H s locs 0 0 cells slots) (hl : lv_has ls 4 lv) (hpc : pc + 3 = n)
    (hr : va_Run p (gl g) e room_1 s m #[Value.ref b] below meth c H locs cells slots (mx M1 - mx M) (ms M1 - ms M) (F0 m pc ls stk) st (QcG g v M1 As) (AA g)) :
    W p (gl g) e room_1 s m #[Value.ref b] below meth c H locs cells slots (lw_Z below #[Value.ref b] s) (F0 m pc ls stk) := by
  subst hpc
  intro T hT X
  obtain ⟨v', st₀, t, T', L, h0, X', hL, e1, e2, ⟨hv, hP, hz, hk⟩, go⟩ := hr T hT X
  cases hv
  rw [h0] at hz hk
  have hS4 := hS.2.2.2
  have g1 := hE.1
  have g2 := hE.2.1
  have g3 := hS.1
  have g4 := hS.2.1
  obtain ⟨t2, a1, b1⟩ := kk T'.heap (locs ++ L) (cells + (mx M1 - mx M)) (slots + (ms M1 - ms M)) ls ⟨by omega, by omega, by rw [e1]; exact hP,
    ⟨Nat.le_trans hS4.1 (by rw [e1]; exact hz), fun q h1 h2 => by rw [e1, hk q (Nat.lt_of_lt_of_le h1 hS4.1) h2]; exact hS4.2.1 q h1 h2, fun q hq => by
      rcases List.mem_append.mp hq with h | h
      · exact hS4.2.2 q h
      · exact hL q h⟩⟩ hl T' rfl X'
  exact ⟨t2, go t2 a1, b1⟩
theorem lw_Pcw (C : LCw g p s m meth c b L xs) {As : List Value} {H : Heap} {locs : List Loc} {cells slots : Nat} (hS : Sd g M H s locs 0 0 cells slots) (hz : H.size ≤ s.heap.size + cells) : ∀ U : State, U.heap = H → s.WarmedH U.vm → PcG g As M As.toArray U := by
  obtain ⟨hx, hb, hml, hown, hts, hret, hlk, hX, hbl, hsz, hK, hSK⟩ := id C
  intro U hU hW
  have hlow := Sd_low hS (by rw [hsz]; rfl)
  have h1 := hS.1
  exact ⟨rfl, by rw [hU]; omega, by rw [hU]; exact hS.2.2.1, va_K.moved hW.alike hK, SK_call hSK hS.2.2.2 hU hW⟩
theorem lw_callV (C : LCw g p s m meth c b L xs) {ν : MD} {idx ci dc k a : Nat} {q : vw_C} {As : List Value} {v : Option Value} (hd : decode code pc = .ok (.invokevirtual idx, 3)) (hn : pc + 3 = n) (hw : Cond.methodLink RL idx ν.1 ∈ TB) (hO : MO ν k) (hO2 : Cond.instanceMethod ν.1 ∈ TB ∧ Cond.selects ν.1.cls ν.1 ν.1 ∈ TB) (hq : vwCl[ci]? = some q) (hqc : q.1 = ν.1.cls) (ha : KM M.1 a ci) (hdc : dc ≤ 100) (hs : stk = As.reverse ++ rf g a :: st) (hlen : As.length = k) (hcat : (st.map fun v => v.category).sum ≤ 8) (hCl : Cl g dc ν (rf g a :: As) M v M1) (b1 : mx M1 ≤ room_1.cells) (b2 : ms M1 ≤ room_1.slots) (kk : Lw g p e s m below meth c b n lv (v.toList ++ st) M1) : Lw g p e s m below meth c b pc lv stk M := by
  intro H locs cells slots ls hS hl
  refine W_sz (fun hz => ?_)
  obtain ⟨hx, hb, hml, hown, hts, hret, hlk, hX, hbl, hsz, hK, hSK⟩ := id C
  obtain ⟨o1, o2, o3, o4, o5, o6⟩ := id hO
  have c1 := hCl.1.1
  have c2 := hCl.1.2.1
  have g3 := hS.1
  have g4 := hS.2.1
  have hlt := (cls_ok hq).1
  have hr3 := rm_frames
  have hr4 := rm_locals
  have hcw : CallW room_1 s #[Value.ref b] RL q.1 idx ν.1 ν.2.1 ν.2.2.1 ν.2.2.2 (wsM ν) (rmD dc M M1) (mx M1 - mx M) (ms M1 - ms M) k := by
    refine ⟨callB_of k hts (wsM_good hO) rfl rfl rfl (hts _ o2) (hts _ hw) ⟨o4, o5, o6⟩ ⟨?_, ?_⟩, hts _ hO2.1, ?_⟩
    · show dc + 1 ≤ room_1.frames; omega
    · show 8 + (ν.2.2.1 + 11) + 41 * dc ≤ room_1.locals; omega
    · rw [hqc]; exact hts _ hO2.2
  refine lw_behind (As := (rf g a :: As).toArray) hCl.1 kk hS hl hn (va_runV (As := As) (rest := st) ⟨hx, hb, hml, hown, hts⟩ hCl.2 hcw ⟨PcG_blind g _ M, va_recv hK hS.2.2.1 hq (by rw [wsO_get ha.1, ce_o ha.2 hlt]), lw_Pcw C hS hz⟩ rfl hlen hl.1 hs (lv_room hcat) hd ⟨by omega, by omega⟩)
theorem lw_callI (C : LCw g p s m meth c b L xs) {ν : MD} {idx dc k a : Nat} {As : List Value} (hret : ν.2.2.2 = none) (hin : ν.1.name = "<init>") (hd : decode code pc = .ok (.invokespecial idx, 3)) (hn : pc + 3 = n) (hw : Cond.methodLink RL idx ν.1 ∈ TB) (hO : MO ν k) (hO2 : Cond.instanceMethod ν.1 ∈ TB) (hdc : dc ≤ 100) (hs : stk = As.reverse ++ rf g a :: st) (hlen : As.length = k) (hcat : (st.map fun v => v.category).sum ≤ 8) (hCl : Cl g dc ν (rf g a :: As) M none M1) (b1 : mx M1 ≤ room_1.cells) (b2 : ms M1 ≤ room_1.slots) (kk : Lw g p e s m below meth c b n lv st M1) : Lw g p e s m below meth c b pc lv stk M := by
  intro H locs cells slots ls hS hl
  refine W_sz (fun hz => ?_)
  obtain ⟨hx, hb, hml, hown, hts, hrt, hlk, hX, hbl, hsz, hK, hSK⟩ := id C
  obtain ⟨o1, o2, o3, o4, o5, o6⟩ := id hO
  have c1 := hCl.1.1
  have c2 := hCl.1.2.1
  have g3 := hS.1
  have g4 := hS.2.1
  have hr3 := rm_frames
  have hr4 := rm_locals
  have hcw : CallB room_1 s #[Value.ref b] RL idx ν.1 ν.2.1 ν.2.2.1 none (wsM ν) (rmD dc M M1) (mx M1 - mx M) (ms M1 - ms M) k ∧ ν.1.name = "<init>" ∧ (Cond.instanceMethod ν.1).before #[Value.ref b] s = true := by
    refine ⟨?_, hin, hts _ hO2⟩
    rw [← hret]
    refine callB_of k hts (wsM_good hO) rfl rfl rfl (hts _ o2) (hts _ hw) ⟨o4, o5, o6⟩ ⟨?_, ?_⟩
    · show dc + 1 ≤ room_1.frames; omega
    · show 8 + (ν.2.2.1 + 11) + 41 * dc ≤ room_1.locals; omega
  refine lw_behind (v := none) (As := (rf g a :: As).toArray) hCl.1 kk hS hl hn (va_runI (As := As) (rest := st) ⟨hx, hb, hml, hown, hts⟩ hCl.2 hcw ⟨PcG_blind g _ M, lw_Pcw C hS hz⟩ rfl hlen hl.1 hs (lv_room hcat) hd ⟨by omega, by omega⟩)
/-- the law's cell(): over the script -/
def PcX (g : GE) (b L : Nat) (xs : Nat → Int32) (av : List Value) (M : Mem) : Array Value → State → Prop := va_Pc av (fun U => PcB g M U ∧ va_X b L xs U U.heap ∧ b < gb g)
theorem PcX_blind (g : GE) (b L : Nat) (xs : Nat → Int32) (av : List Value) (M : Mem) : FrameBlind (PcX g b L xs av M) := by
  intro a U f mk h
  obtain ⟨h0, ⟨h1, h2, h3, h4⟩, h5, h6⟩ := h
  exact ⟨h0, ⟨h1, h2, va_K.moved (u := U) (U := U.calling f mk a) (Vm.Alike.refl U.vm) h3, SK_blind (s := U) rfl rfl h4⟩, va_X.moved (u := U) (U := U.calling f mk a) (Vm.Alike.refl U.vm) h5, h6⟩
theorem cell_met (g : GE) {b L k : Nat} {xs : Nat → Int32} (M : Mem) (hk : k < 2 ^ 31) (hL : L < 2 ^ 31) : Met (gl g) mu_L_cell.1 (wsM mu_L_cell) (rmD 1 M M) (PcX g b L xs [.ref b, .int (nI k)] M) (QcG g (some (.int (if k < L then xs k else 0))) M) (mx M - mx M) (ms M - ms M) (AA g) := by
  refine Met.ofW (cc := cL_cell) (maxL := 2) (ret := some .int) (by decide) rfl ?_
  intro p e s m args below meth c s₁ B hml hv
  obtain ⟨rfl, ⟨h1, h2, h3, h4⟩, hX, hbl⟩ := hv
  have hl := lv_entry [.ref b, .int (nI k)] (n := 2) (Nat.le_of_ble_eq_true rfl)
  rw [lg_entry_eq, Nat.sub_self, Nat.sub_self]
  generalize (lg_sl ([.ref b, .int (nI k)]) ++ List.replicate (2 - (lg_sl ([.ref b, .int (nI k)])).length) Slot.unset).toArray = ls at hl ⊢
  have hl : lv_has ls 2 [(0, .ref b), (1, .int (nI k))] := hl
  have hbs : b < s.heap.size := by omega
  have hbA : ¬ AA g b := fun h => by
    have h5 : gb g ≤ b := h
    omega
  have hS : va_S (AA g) s.heap s.heap [] := va_S.rf
  have fin : ∀ v : Int32, v = (if k < L then xs k else 0) → W p (gl g) e (rmD 1 M M) s m ([Value.ref b, Value.int (nI k)] : List Value).toArray below meth c s.heap [] 0 0 (MQ below (QcG g (some (.int (if k < L then xs k else 0))) M) ([Value.ref b, Value.int (nI k)] : List Value).toArray s 0 0 (AA g)) (F0 m 13 ls [.int v]) := fun v hv => by
    rw [← hv]
    exact W.iret B.exec B.bytes B.returns (fun t ht hW => ⟨rfl, by rw [ht]; exact h2, hS.F ht⟩) (fun q hq => absurd hq List.not_mem_nil) dL_cell_13 B.notSynchronized
  refine lv_iload_n B.exec B.bytes dL_cell_0 rfl (lv_at hl 1 rfl) ?_
  refine lv_aload_n B.exec B.bytes dL_cell_1 rfl (lv_at hl 0 rfl) ?_
  refine va_slen (A := AA g) (H0 := s.heap) B.exec B.bytes hX hbs hbA hS dL_cell_2 ?_
  refine lv_icmp_ge (tgt := 12) B.exec B.bytes dL_cell_3 (by decide) (fun z => ?_) (fun z => ?_)
  · refine lv_iconst (v := 0) B.exec B.bytes dL_cell_12 (by decide) ?_
    exact fin 0 (by rw [if_neg]; intro z2; exact absurd z (nI_ge z2 hL))
  · have z3 : k < L := Classical.byContradiction (fun z2 => z (nI_le (by omega) hk))
    refine lv_aload_n B.exec B.bytes dL_cell_6 rfl (lv_at hl 0 rfl) ?_
    refine lv_iload_n B.exec B.bytes dL_cell_7 rfl (lv_at hl 1 rfl) ?_
    refine va_sld (A := AA g) (H0 := s.heap) B.exec B.bytes hX hbs hbA hS (vp_in_nI z3 hL) dL_cell_8 ?_
    refine lv_goto (tgt := 13) B.exec B.bytes dL_cell_9 (by decide) ?_
    exact fin _ (by rw [if_pos z3, nI_clamp hk])
theorem lw_cell (C : LCw g p s m meth c b L xs) {k : Nat} (hk : k < 2 ^ 31) (hL : L < 2 ^ 31) (b1 : mx M ≤ room_1.cells) (b2 : ms M ≤ room_1.slots) (hd : decode code pc = .ok (.invokestatic 9, 3)) (hn : pc + 3 = n) (hcat : (st.map fun v => v.category).sum ≤ 8) (kk : Lw g p e s m below meth c b n lv (.int (if k < L then xs k else 0) :: st) M) : Lw g p e s m below meth c b pc lv (.int (nI k) :: .ref b :: st) M := by
  intro H locs cells slots ls hS hl
  refine W_sz (fun hz => ?_)
  obtain ⟨hx, hb, hml, hown, hts, hret, hlk, hX, hbl, hsz, hK, hSK⟩ := id C
  obtain ⟨o1, o2, o3, o4, o5, o6⟩ := mo_L_cell
  have g3 := hS.1
  have g4 := hS.2.1
  have hcw : CallB room_1 s #[Value.ref b] RL 9 mu_L_cell.1 mu_L_cell.2.1 mu_L_cell.2.2.1 mu_L_cell.2.2.2 (wsM mu_L_cell) (rmD 1 M M) (mx M - mx M) (ms M - ms M) 2 ∧ (Cond.static mu_L_cell.1).before #[Value.ref b] s = true := by
    refine ⟨callB_of 2 hts (wsM_good mo_L_cell) rfl rfl rfl (hts _ o2) (hts _ ml_L_9) ⟨o4, o5, o6⟩ ⟨?_, ?_⟩, hts _ ms_L_cell⟩
    · exact Nat.le_trans (m := 512) (show 1 + 1 ≤ 512 by decide) rm_frames
    · exact Nat.le_trans (m := 32000) (show 8 + (2 + 11) + 41 * 1 ≤ 32000 by decide) rm_locals
  refine lw_behind (M1 := M) (v := some (.int (if k < L then xs k else 0))) (As := ([.ref b, .int (nI k)] : List Value).toArray) (Ext.rf M) kk hS hl hn (va_runS (As := [.ref b, .int (nI k)]) (rest := st) ⟨hx, hb, hml, hown, hts⟩ (cell_met g M hk hL) hcw ⟨PcX_blind g b L xs _ M, fun U hU hW => ?_⟩ rfl rfl hl.1 rfl (lv_room hcat) hd ⟨by omega, by omega⟩)
  obtain ⟨a0, a1⟩ := lw_Pcw C (As := [.ref b, .int (nI k)]) hS hz U hU hW
  refine ⟨a0, a1, va_X.moved hW.alike ?_, by omega⟩
  rw [hU]
  exact hX.kept (hS.2.2.2.2.1 b hbl (lw_low C))
end LAWC
