/-! making, calls, returns -/
theorem SK_call {g : GE} {s U : State} {H : Heap} {locs : List Loc} (h : SK g s) (hS : va_S (AA g) s.heap H locs) (hU : U.heap = H) (hW : s.WarmedH U.vm) : SK g U := by
  obtain ⟨n0, n1, n2, n3, h1, h2, h3⟩ := h
  refine ⟨va_AO.moved hW.alike n0, fun q hq => va_Nw.warmM hW (n1 q hq), va_Nw.warmC hW n2, ?_, ?_, fun i hi => vk_R.warm hW (h2 i hi), ?_⟩
  · rw [hU]
    exact va_Zq.moved hW.alike (n3.kept (fun a ha hn => hS.2.1 a ha hn))
  · rw [hU]
    exact vk_S.moved hW.alike (h1.kept (fun a ha hn => hS.2.1 a ha hn))
  · rw [hU]
    exact va_Z.moved hW.alike (h3.kept (fun a ha hn => hS.2.1 a ha hn))
theorem SK_blind {g : GE} {s U : State} (hh : U.heap = s.heap) (hv : U.vm = s.vm) (h : SK g s) : SK g U := by
  obtain ⟨n0, n1, n2, n3, h1, h2, h3⟩ := h
  have hA : s.vm.Alike U.vm := by rw [hv]; exact Vm.Alike.refl _
  refine ⟨va_AO.moved hA n0, fun q hq => (n1 q hq).same rfl hv.symm, n2.same rfl hv.symm, ?_, ?_, fun i hi => (h2 i hi).same hv, ?_⟩
  · rw [hh]; exact va_Zq.moved hA n3
  · rw [hh]; exact vk_S.moved hA h1
  · rw [hh]; exact va_Z.moved hA h3
theorem PcG_blind (g : GE) (av : List Value) (M : Mem) : FrameBlind (PcG g av M) := by
  intro a U f mk h
  obtain ⟨h0, h1, h2, h3, h4⟩ := h
  exact ⟨h0, h1, h2, va_K.moved (u := U) (U := U.calling f mk a) (Vm.Alike.refl U.vm) h3, SK_blind (s := U) rfl rfl h4⟩
/-- what a call needs of its method: n values beside the receiver -/
def MO (ν : MD) (n : Nat) : Prop := Cond.code ν.1 ν.2.1 ν.2.2.1 ν.2.2.2 ∈ TB ∧ Cond.initialized ν.1.cls ∈ TB ∧ ν.2.2.1 ≤ 22 ∧ ν.1.cls ≠ "java/lang/invoke/MethodHandle" ∧ ν.1.cls ≠ "java/lang/invoke/VarHandle" ∧ (parseMethodDescriptor ν.1.desc).map (fun q => q.parameters.length) = some n
section FC
variable {g : GE} {d : Nat} {μ : MD} {pc n tgt : Nat} {lv lv' : List (Nat × Value)} {st st' stk : List Value} {M M1 M' : Mem} {r : Option Value}
theorem fr_new {idx ci nf : Nat} (hd : decode μ.2.1 pc = .ok (.new idx, 3)) (hn : pc + 3 = n) (hN : NL μ.1.cls idx ci nf) (kk : Fr g d μ n lv (rf g (mx M) :: st) (nw M ci nf) r M') : Fr g d μ pc lv st M r M' := by
  subst hn
  refine ⟨(Ext.nw _ _ _).tr kk.1, fun p e s m args below meth c R x0 s0 H locs cells slots ls hC hS hl => ?_⟩
  obtain ⟨q, hq, rfl, w1, w2, w3⟩ := hN
  obtain ⟨hlt, c1, c2, c3, ty0, c4, c5⟩ := cls_ok hq
  obtain ⟨hx, hb, hml, hown, hts, hret, hlk, hnm, hdf, hdl, hrc, hrs, hsz, hK, hSK⟩ := id hC
  have hmx : mx (nw M ci q.2.2) ≤ mx M' := kk.1.1
  have hms : ms (nw M ci q.2.2) ≤ ms M' := kk.1.2.1
  have e1 : mx (nw M ci q.2.2) = mx M + 1 := rfl
  have e2 : ms (nw M ci q.2.2) = ms M + q.2.2 := rfl
  have hlow := Sd_low hS hsz
  have h1 := hS.1
  have h2 := hS.2.1
  have hfs : ∀ j, j < q.2.2 → defaultValue (ty0 j) = vp_V (fs g (nw M ci q.2.2) (mx M) ci) j := by
    intro j hj
    rw [c5 j hj]
    have hjl : j < (kd ci).length := by rw [c2]; exact hj
    have hk : (kd ci)[j]? = some ((kd ci).getD j 0) := by simp [List.getD, List.getElem?_eq_getElem hjl]
    obtain ⟨kv, hkv⟩ : ∃ kv, (kd ci).getD j 0 = kv := ⟨_, rfl⟩
    rw [hkv] at hk ⊢
    unfold vp_V
    rw [List.getD_eq_getElem?_getD, fs_at hk, Option.getD_some]
    unfold fv
    have z1 : mI (nw M ci q.2.2) (mx M) = fun _ => 0 := rw1_s _ _ _
    have z2 : mL (nw M ci q.2.2) (mx M) = fun _ => 0 := rw1_s _ _ _
    have z3 : mR (nw M ci q.2.2) (mx M) = fun _ => none := rw1_s _ _ _
    rw [z1, z2, z3]
    match kv with
    | 0 => rfl
    | 1 => rfl
    | _ + 2 => rfl
  refine va_new (C := q.1) (T := q.2.1) (N := q.2.2) (fs := fs g (nw M ci q.2.2) (mx M) ci) hx hb hts c1 ty0 c4 hown (hts _ w1) (hts _ w2) (hts _ w3) hK hS.2.2.1 (wsO_D g M) hS.2.2.2 (fun a ha => by show gb g ≤ a; omega) hq hfs (by omega) (by omega) hd (fun a H1 hP1 hD1 hS1 => ?_)
  refine W_sz (fun hz => ?_)
  have ha1 : a < H1.size := (hP1 (wsO g M).length (a, .inr (ci, fs g (nw M ci q.2.2) (mx M) ci)) (by simp)).lt
  have ha2 : gb g ≤ a := hD1.2 (wsO g M).length (a, .inr (ci, fs g (nw M ci q.2.2) (mx M) ci)) (by simp)
  have hlen : (wsO g M).length = mx M := by unfold wsO; simp
  have ha3 : ¬ a < gb g + mx M := by
    intro hlt2
    have hk : (wsO g M)[a - gb g]? = some (gb g + (a - gb g), ce g M (a - gb g)) := wsO_get (by omega)
    have h3 : (wsO g M ++ [(a, Sum.inr (ci, fs g (nw M ci q.2.2) (mx M) ci))])[a - gb g]? = some (gb g + (a - gb g), ce g M (a - gb g)) := by
      rw [List.getElem?_append_left (by omega)]; exact hk
    have h4 := hD1.1 (a - gb g) (wsO g M).length _ (a, .inr (ci, fs g (nw M ci q.2.2) (mx M) ci)) h3 (by simp) (by show gb g + (a - gb g) = a; omega)
    omega
  have hae : a = gb g + mx M := by omega
  subst hae
  refine kk.2 p e s m args below meth c R x0 s0 H1 locs (cells + 1) (slots + q.2.2) ls hC ⟨by omega, by omega, ?_, hS1⟩ hl
  rw [← wsO_push (e := .inr (ci, fs g (nw M ci q.2.2) (mx M) ci)) (ce_o (show mT (nw M ci q.2.2) (mx M) = ci from rw1_s _ _ _) hlt) (fun b hb => ce_nw b hb)]
  exact hP1

theorem fr_newI {x : Int32} (hd : decode μ.2.1 pc = .ok (.newarray .int, 2)) (hn : pc + 2 = n) (hw : Cond.arrayClass .int ∈ TB) (h0 : ¬ x < 0) (hbig : x.toNatClampNeg ≤ 60000) (kk : Fr g d μ n lv (rf g (mx M) :: st) (nw M 13 x.toNatClampNeg) r M') : Fr g d μ pc lv (.int x :: st) M r M' := by
  subst hn
  refine ⟨(Ext.nw _ _ _).tr kk.1, fun p e s m args below meth c R x0 s0 H locs cells slots ls hC hS hl => ?_⟩
  obtain ⟨hx, hb, hml, hown, hts, hret, hlk, hnm, hdf, hdl, hrc, hrs, hsz, hK, hSK⟩ := id hC
  have hmx : mx (nw M 13 x.toNatClampNeg) ≤ mx M' := kk.1.1
  have hms : ms (nw M 13 x.toNatClampNeg) ≤ ms M' := kk.1.2.1
  have e1 : mx (nw M 13 x.toNatClampNeg) = mx M + 1 := rfl
  have e2 : ms (nw M 13 x.toNatClampNeg) = ms M + x.toNatClampNeg := rfl
  have hlow := Sd_low hS hsz
  have h1 := hS.1
  have h2 := hS.2.1
  refine va_newa (atype := .int) (ty := .int) (a0 := (x.toNatClampNeg, .inl (fun _ => 0))) hx hb (hts _ hw) rfl hK hS.2.2.1 (wsO_D g M) hS.2.2.2 (fun a ha => by show gb g ≤ a; omega) (fun _ => rfl) h0 rfl (Nat.le_trans (Nat.mul_le_mul_right _ hbig) (by decide)) (by omega) (by omega) hd (fun a cA H1 hK1 hP1 hD1 hS1 => ?_)
  have hcA : cA = gA g 0 := by
    have q1 := (hK1.2 (tyL g).length (cA, .int) (by simp)).2
    have q2 := (hK.2 0 (gA g 0, .int) rfl).2
    exact Option.some.inj ((show s.vm.findClass _ = some cA from q1).symm.trans (show s.vm.findClass _ = some (gA g 0) from q2))
  subst hcA
  refine W_sz (fun hz => ?_)
  have ha1 : a < H1.size := (hP1 (wsO g M).length (a, .inl (gA g 0, x.toNatClampNeg, .inl (fun _ => 0))) (by simp)).lt
  have ha2 : gb g ≤ a := hD1.2 (wsO g M).length (a, .inl (gA g 0, x.toNatClampNeg, .inl (fun _ => 0))) (by simp)
  have hlen : (wsO g M).length = mx M := by unfold wsO; simp
  have ha3 : ¬ a < gb g + mx M := by
    intro hlt2
    have h3 : (wsO g M ++ [(a, Sum.inl (gA g 0, x.toNatClampNeg, .inl (fun _ => 0)))])[a - gb g]? = some (gb g + (a - gb g), ce g M (a - gb g)) := by
      rw [List.getElem?_append_left (by omega)]; exact wsO_get (by omega)
    have h4 := hD1.1 (a - gb g) (wsO g M).length _ (a, .inl (gA g 0, x.toNatClampNeg, .inl (fun _ => 0))) h3 (by simp) (by show gb g + (a - gb g) = a; omega)
    omega
  have hae : a = gb g + mx M := by omega
  subst hae
  refine kk.2 p e s m args below meth c R x0 s0 H1 locs (cells + 1) (slots + x.toNatClampNeg) ls hC ⟨by omega, by omega, ?_, hS1⟩ hl
  rw [← wsO_push (e := .inl (gA g 0, x.toNatClampNeg, .inl (fun _ => 0))) (by rw [ce_13 (show mT (nw M 13 x.toNatClampNeg) (mx M) = 13 from rw1_s _ _ _)]; show Sum.inl (gA g 0, rw1 (mN M) (mx M) x.toNatClampNeg (mx M), Sum.inl (rw1 (mI M) (mx M) (fun _ => 0) (mx M))) = _; rw [rw1_s, rw1_s]) (fun b hb => ce_nw b hb)]
  exact hP1
theorem fr_newL {x : Int32} (hd : decode μ.2.1 pc = .ok (.newarray .long, 2)) (hn : pc + 2 = n) (hw : Cond.arrayClass .long ∈ TB) (h0 : ¬ x < 0) (hbig : x.toNatClampNeg ≤ 60000) (kk : Fr g d μ n lv (rf g (mx M) :: st) (nw M 14 x.toNatClampNeg) r M') : Fr g d μ pc lv (.int x :: st) M r M' := by
  subst hn
  refine ⟨(Ext.nw _ _ _).tr kk.1, fun p e s m args below meth c R x0 s0 H locs cells slots ls hC hS hl => ?_⟩
  obtain ⟨hx, hb, hml, hown, hts, hret, hlk, hnm, hdf, hdl, hrc, hrs, hsz, hK, hSK⟩ := id hC
  have hmx : mx (nw M 14 x.toNatClampNeg) ≤ mx M' := kk.1.1
  have hms : ms (nw M 14 x.toNatClampNeg) ≤ ms M' := kk.1.2.1
  have e1 : mx (nw M 14 x.toNatClampNeg) = mx M + 1 := rfl
  have e2 : ms (nw M 14 x.toNatClampNeg) = ms M + x.toNatClampNeg := rfl
  have hlow := Sd_low hS hsz
  have h1 := hS.1
  have h2 := hS.2.1
  refine va_newa (atype := .long) (ty := .long) (a0 := (x.toNatClampNeg, .inr (.inl (fun _ => 0)))) hx hb (hts _ hw) rfl hK hS.2.2.1 (wsO_D g M) hS.2.2.2 (fun a ha => by show gb g ≤ a; omega) (fun _ => rfl) h0 rfl (Nat.le_trans (Nat.mul_le_mul_right _ hbig) (by decide)) (by omega) (by omega) hd (fun a cA H1 hK1 hP1 hD1 hS1 => ?_)
  have hcA : cA = gA g 1 := by
    have q1 := (hK1.2 (tyL g).length (cA, .long) (by simp)).2
    have q2 := (hK.2 1 (gA g 1, .long) rfl).2
    exact Option.some.inj ((show s.vm.findClass _ = some cA from q1).symm.trans (show s.vm.findClass _ = some (gA g 1) from q2))
  subst hcA
  refine W_sz (fun hz => ?_)
  have ha1 : a < H1.size := (hP1 (wsO g M).length (a, .inl (gA g 1, x.toNatClampNeg, .inr (.inl (fun _ => 0)))) (by simp)).lt
  have ha2 : gb g ≤ a := hD1.2 (wsO g M).length (a, .inl (gA g 1, x.toNatClampNeg, .inr (.inl (fun _ => 0)))) (by simp)
  have hlen : (wsO g M).length = mx M := by unfold wsO; simp
  have ha3 : ¬ a < gb g + mx M := by
    intro hlt2
    have h3 : (wsO g M ++ [(a, Sum.inl (gA g 1, x.toNatClampNeg, .inr (.inl (fun _ => 0))))])[a - gb g]? = some (gb g + (a - gb g), ce g M (a - gb g)) := by
      rw [List.getElem?_append_left (by omega)]; exact wsO_get (by omega)
    have h4 := hD1.1 (a - gb g) (wsO g M).length _ (a, .inl (gA g 1, x.toNatClampNeg, .inr (.inl (fun _ => 0)))) h3 (by simp) (by show gb g + (a - gb g) = a; omega)
    omega
  have hae : a = gb g + mx M := by omega
  subst hae
  refine kk.2 p e s m args below meth c R x0 s0 H1 locs (cells + 1) (slots + x.toNatClampNeg) ls hC ⟨by omega, by omega, ?_, hS1⟩ hl
  rw [← wsO_push (e := .inl (gA g 1, x.toNatClampNeg, .inr (.inl (fun _ => 0)))) (by rw [ce_14 (show mT (nw M 14 x.toNatClampNeg) (mx M) = 14 from rw1_s _ _ _)]; show Sum.inl (gA g 1, rw1 (mN M) (mx M) x.toNatClampNeg (mx M), Sum.inr (Sum.inl (rw1 (mL M) (mx M) (fun _ => 0) (mx M)))) = _; rw [rw1_s, rw1_s]) (fun b hb => ce_nw b hb)]
  exact hP1
theorem fr_newZ {x : Int32} (hd : decode μ.2.1 pc = .ok (.newarray .boolean, 2)) (hn : pc + 2 = n) (hw : Cond.arrayClass .boolean ∈ TB) (h0 : ¬ x < 0) (hbig : x.toNatClampNeg ≤ 60000) (kk : Fr g d μ n lv (rf g (mx M) :: st) (nw M 15 x.toNatClampNeg) r M') : Fr g d μ pc lv (.int x :: st) M r M' := by
  subst hn
  refine ⟨(Ext.nw _ _ _).tr kk.1, fun p e s m args below meth c R x0 s0 H locs cells slots ls hC hS hl => ?_⟩
  obtain ⟨hx, hb, hml, hown, hts, hret, hlk, hnm, hdf, hdl, hrc, hrs, hsz, hK, hSK⟩ := id hC
  have hmx : mx (nw M 15 x.toNatClampNeg) ≤ mx M' := kk.1.1
  have hms : ms (nw M 15 x.toNatClampNeg) ≤ ms M' := kk.1.2.1
  have e1 : mx (nw M 15 x.toNatClampNeg) = mx M + 1 := rfl
  have e2 : ms (nw M 15 x.toNatClampNeg) = ms M + x.toNatClampNeg := rfl
  have hlow := Sd_low hS hsz
  have h1 := hS.1
  have h2 := hS.2.1
  refine va_newa (atype := .boolean) (ty := .boolean) (a0 := (x.toNatClampNeg, .inl (fun _ => 0))) hx hb (hts _ hw) rfl hK hS.2.2.1 (wsO_D g M) hS.2.2.2 (fun a ha => by show gb g ≤ a; omega) (fun _ => rfl) h0 rfl (Nat.le_trans (Nat.mul_le_mul_right _ hbig) (by decide)) (by omega) (by omega) hd (fun a cA H1 hK1 hP1 hD1 hS1 => ?_)
  have hcA : cA = gA g 2 := by
    have q1 := (hK1.2 (tyL g).length (cA, .boolean) (by simp)).2
    have q2 := (hK.2 2 (gA g 2, .boolean) rfl).2
    exact Option.some.inj ((show s.vm.findClass _ = some cA from q1).symm.trans (show s.vm.findClass _ = some (gA g 2) from q2))
  subst hcA
  refine W_sz (fun hz => ?_)
  have ha1 : a < H1.size := (hP1 (wsO g M).length (a, .inl (gA g 2, x.toNatClampNeg, .inl (fun _ => 0))) (by simp)).lt
  have ha2 : gb g ≤ a := hD1.2 (wsO g M).length (a, .inl (gA g 2, x.toNatClampNeg, .inl (fun _ => 0))) (by simp)
  have hlen : (wsO g M).length = mx M := by unfold wsO; simp
  have ha3 : ¬ a < gb g + mx M := by
    intro hlt2
    have h3 : (wsO g M ++ [(a, Sum.inl (gA g 2, x.toNatClampNeg, .inl (fun _ => 0)))])[a - gb g]? = some (gb g + (a - gb g), ce g M (a - gb g)) := by
      rw [List.getElem?_append_left (by omega)]; exact wsO_get (by omega)
    have h4 := hD1.1 (a - gb g) (wsO g M).length _ (a, .inl (gA g 2, x.toNatClampNeg, .inl (fun _ => 0))) h3 (by simp) (by show gb g + (a - gb g) = a; omega)
    omega
  have hae : a = gb g + mx M := by omega
  subst hae
  refine kk.2 p e s m args below meth c R x0 s0 H1 locs (cells + 1) (slots + x.toNatClampNeg) ls hC ⟨by omega, by omega, ?_, hS1⟩ hl
  rw [← wsO_push (e := .inl (gA g 2, x.toNatClampNeg, .inl (fun _ => 0))) (by rw [ce_15 (show mT (nw M 15 x.toNatClampNeg) (mx M) = 15 from rw1_s _ _ _)]; show Sum.inl (gA g 2, rw1 (mN M) (mx M) x.toNatClampNeg (mx M), Sum.inl (rw1 (mI M) (mx M) (fun _ => 0) (mx M))) = _; rw [rw1_s, rw1_s]) (fun b hb => ce_nw b hb)]
  exact hP1
theorem fr_newA {x : Int32} {idx : Nat} (hd : decode μ.2.1 pc = .ok (.anewarray idx, 3)) (hn : pc + 3 = n) (hw : Cond.classLink μ.1.cls idx RX6 ∈ TB) (h0 : ¬ x < 0) (hbig : x.toNatClampNeg ≤ 60000) (kk : Fr g d μ n lv (rf g (mx M) :: st) (nw M 16 x.toNatClampNeg) r M') : Fr g d μ pc lv (.int x :: st) M r M' := by
  subst hn
  refine ⟨(Ext.nw _ _ _).tr kk.1, fun p e s m args below meth c R x0 s0 H locs cells slots ls hC hS hl => ?_⟩
  obtain ⟨hx, hb, hml, hown, hts, hret, hlk, hnm, hdf, hdl, hrc, hrs, hsz, hK, hSK⟩ := id hC
  have hmx : mx (nw M 16 x.toNatClampNeg) ≤ mx M' := kk.1.1
  have hms : ms (nw M 16 x.toNatClampNeg) ≤ ms M' := kk.1.2.1
  have e1 : mx (nw M 16 x.toNatClampNeg) = mx M + 1 := rfl
  have e2 : ms (nw M 16 x.toNatClampNeg) = ms M + x.toNatClampNeg := rfl
  have hlow := Sd_low hS hsz
  have h1 := hS.1
  have h2 := hS.2.1
  refine va_newq hx hb hown (hts _ hw) hSK.1 hK hS.2.2.1 (wsO_D g M) hS.2.2.2 (fun a ha => by show gb g ≤ a; omega) h0 rfl (Nat.le_trans (Nat.mul_le_mul_right _ hbig) (by decide)) (by omega) (by omega) hd (fun a cA H1 hK1 hP1 hD1 hS1 => ?_)
  have hcA : cA = gA g 3 := by
    obtain ⟨_, _, _, _, _, q1⟩ := (hK1.2 (tyL g).length (cA, .object RX6) (by simp)).2
    obtain ⟨_, _, _, _, _, q2⟩ := (hK.2 3 (gA g 3, .object RX6) rfl).2
    exact Option.some.inj (q1.symm.trans q2)
  subst hcA
  refine W_sz (fun hz => ?_)
  have ha1 : a < H1.size := (hP1 (wsO g M).length (a, .inl (gA g 3, x.toNatClampNeg, .inr (.inr (.inr (.inr (fun _ => none)))))) (by simp)).lt
  have ha2 : gb g ≤ a := hD1.2 (wsO g M).length (a, .inl (gA g 3, x.toNatClampNeg, .inr (.inr (.inr (.inr (fun _ => none)))))) (by simp)
  have hlen : (wsO g M).length = mx M := by unfold wsO; simp
  have ha3 : ¬ a < gb g + mx M := by
    intro hlt2
    have h3 : (wsO g M ++ [(a, Sum.inl (gA g 3, x.toNatClampNeg, .inr (.inr (.inr (.inr (fun _ => none))))))])[a - gb g]? = some (gb g + (a - gb g), ce g M (a - gb g)) := by
      rw [List.getElem?_append_left (by omega)]; exact wsO_get (by omega)
    have h4 := hD1.1 (a - gb g) (wsO g M).length _ (a, .inl (gA g 3, x.toNatClampNeg, .inr (.inr (.inr (.inr (fun _ => none)))))) h3 (by simp) (by show gb g + (a - gb g) = a; omega)
    omega
  have hae : a = gb g + mx M := by omega
  subst hae
  refine kk.2 p e s m args below meth c R x0 s0 H1 locs (cells + 1) (slots + x.toNatClampNeg) ls hC ⟨by omega, by omega, ?_, hS1⟩ hl
  rw [← wsO_push (e := .inl (gA g 3, x.toNatClampNeg, .inr (.inr (.inr (.inr (fun _ => none)))))) (by rw [ce_16 (show mT (nw M 16 x.toNatClampNeg) (mx M) = 16 from rw1_s _ _ _)]; show Sum.inl (gA g 3, rw1 (mN M) (mx M) x.toNatClampNeg (mx M), Sum.inr (Sum.inr (Sum.inr (Sum.inr (fun i => (rw1 (mR M) (mx M) (fun _ => none) (mx M) i).map (fun b => gb g + b)))))) = _; rw [rw1_s, rw1_s]; rfl) (fun b hb => ce_nw b hb)]
  exact hP1
/-- behind a call -/
theorem Fr_behind {ν : MD} {As : Array Value} {v : Option Value} (hE : Ext M M1) (kk : Fr g d μ n lv (v.toList ++ st) M1 r M')
    {p : Program} {e : Env} {s : State} {m : MethodId} {args : Array Value} {below : List Frame} {meth : Method} {c : Code} {R : Room} {x0 s0 : Nat} {H : Heap} {locs : List Loc} {cells slots : Nat} {ls : Array Slot} (hC : Cx g d μ p s m args meth c R x0 s0 M') (hS : Sd g M H s locs x0 s0 cells slots) (hl : lv_has ls μ.2.2.1 lv) (hpc : pc + 3 = n)
    (hr : va_Run p (gl g) e R s m args below meth c H locs cells slots (mx M1 - mx M) (ms M1 - ms M) (F0 m pc ls stk) st (QcG g v M1 As) (AA g)) :
    W p (gl g) e R s m args below meth c H locs cells slots (MQ below (QcG g r M') args s (mx M' - x0) (ms M' - s0) (AA g)) (F0 m pc ls stk) := by
  subst hpc
  intro T hT X
  obtain ⟨v', st₀, t, T', L, h0, X', hL, e1, e2, ⟨hv, hP, hz, hk⟩, go⟩ := hr T hT X
  cases hv
  rw [h0] at hz hk
  have hS4 := hS.2.2.2
  have g1 := hE.1
  have g2 := hE.2.1
  have g3 := hS.1
  have g4 := hS.2.1
  obtain ⟨t2, a1, b1⟩ := kk.2 p e s m args below meth c R x0 s0 T'.heap (locs ++ L) (cells + (mx M1 - mx M)) (slots + (ms M1 - ms M)) ls hC ⟨by omega, by omega, by rw [e1]; exact hP,
    ⟨Nat.le_trans hS4.1 (by rw [e1]; exact hz), fun q h1 h2 => by rw [e1, hk q (Nat.lt_of_lt_of_le h1 hS4.1) h2]; exact hS4.2.1 q h1 h2, fun q hq => by
      rcases List.mem_append.mp hq with h | h
      · exact hS4.2.2 q h
      · exact hL q h⟩⟩ hl T' rfl X'
  exact ⟨t2, go t2 a1, b1⟩
theorem wsM_good {ν : MD} {k : Nat} (h : MO ν k) : GoodIn TB (wsM ν) := fun w hw => by
  rcases List.mem_cons.mp hw with rfl | h2
  · exact TB_good _ h.1
  · exact TB_good _ h2
theorem Pc_now {As : List Value} {p : Program} {s : State} {m : MethodId} {args : Array Value} {meth : Method} {c : Code} {R : Room} {x0 s0 : Nat} {H : Heap} {locs : List Loc} {cells slots : Nat} (hC : Cx g d μ p s m args meth c R x0 s0 M') (hS : Sd g M H s locs x0 s0 cells slots) (hz : H.size ≤ s.heap.size + cells) : ∀ U : State, U.heap = H → s.WarmedH U.vm → PcG g As M As.toArray U := by
  obtain ⟨hx, hb, hml, hown, hts, hret, hlk, hnm, hdf, hdl, hrc, hrs, hsz, hK, hSK⟩ := id hC
  intro U hU hW
  have hlow := Sd_low hS hsz
  have h1 := hS.1
  exact ⟨rfl, by rw [hU]; omega, by rw [hU]; exact hS.2.2.1, va_K.moved hW.alike hK, SK_call hSK hS.2.2.2 hU hW⟩
theorem fr_callV {ν : MD} {idx ci dc k a : Nat} {q : vw_C} {As : List Value} {v : Option Value} (hd : decode μ.2.1 pc = .ok (.invokevirtual idx, 3)) (hn : pc + 3 = n) (hw : Cond.methodLink μ.1.cls idx ν.1 ∈ TB) (hO : MO ν k) (hO2 : Cond.instanceMethod ν.1 ∈ TB ∧ Cond.selects ν.1.cls ν.1 ν.1 ∈ TB) (hq : vwCl[ci]? = some q) (hqc : q.1 = ν.1.cls) (ha : KM M.1 a ci) (hdc : dc + 1 ≤ d) (hs : stk = As.reverse ++ rf g a :: st) (hlen : As.length = k) (hcat : (st.map fun v => v.category).sum ≤ 8) (hCl : Cl g dc ν (rf g a :: As) M v M1) (kk : Fr g d μ n lv (v.toList ++ st) M1 r M') : Fr g d μ pc lv stk M r M' := by
  refine ⟨hCl.1.tr kk.1, fun p e s m args below meth c R x0 s0 H locs cells slots ls hC hS hl => ?_⟩
  refine W_sz (fun hz => ?_)
  obtain ⟨hx, hb, hml, hown, hts, hret, hlk, hnm, hdf, hdl, hrc, hrs, hsz, hK, hSK⟩ := id hC
  obtain ⟨o1, o2, o3, o4, o5, o6⟩ := id hO
  have k1 := kk.1.1
  have k2 := kk.1.2.1
  have c1 := hCl.1.1
  have c2 := hCl.1.2.1
  have g3 := hS.1
  have g4 := hS.2.1
  have hlt := (cls_ok hq).1
  have hcw : CallW R s args μ.1.cls q.1 idx ν.1 ν.2.1 ν.2.2.1 ν.2.2.2 (wsM ν) (rmD dc M M1) (mx M1 - mx M) (ms M1 - ms M) k := by
    refine ⟨callB_of k hts (wsM_good hO) rfl rfl rfl (hts _ o2) (hts _ hw) ⟨o4, o5, o6⟩ ⟨?_, ?_⟩, hts _ hO2.1, ?_⟩
    · show dc + 1 ≤ R.frames; omega
    · show 8 + (ν.2.2.1 + 11) + 41 * dc ≤ R.locals; omega
    · rw [hqc]; exact hts _ hO2.2
  refine Fr_behind (ν := ν) hCl.1 kk hC hS hl hn (va_runV (As := As) (rest := st) ⟨hx, hb, hml, hown, hts⟩ hCl.2 hcw ⟨PcG_blind g _ M, va_recv hK hS.2.2.1 hq (by rw [wsO_get ha.1, ce_o ha.2 hlt]), Pc_now hC hS hz⟩ rfl hlen hl.1 hs (lv_room hcat) hd ⟨by omega, by omega⟩)
theorem fr_callS {ν : MD} {idx dc k : Nat} {As : List Value} {v : Option Value} (hd : decode μ.2.1 pc = .ok (.invokestatic idx, 3)) (hn : pc + 3 = n) (hw : Cond.methodLink μ.1.cls idx ν.1 ∈ TB) (hO : MO ν k) (hO2 : Cond.static ν.1 ∈ TB) (hdc : dc + 1 ≤ d) (hs : stk = As.reverse ++ st) (hlen : As.length = k) (hcat : (st.map fun v => v.category).sum ≤ 8) (hCl : Cl g dc ν As M v M1) (kk : Fr g d μ n lv (v.toList ++ st) M1 r M') : Fr g d μ pc lv stk M r M' := by
  refine ⟨hCl.1.tr kk.1, fun p e s m args below meth c R x0 s0 H locs cells slots ls hC hS hl => ?_⟩
  refine W_sz (fun hz => ?_)
  obtain ⟨hx, hb, hml, hown, hts, hret, hlk, hnm, hdf, hdl, hrc, hrs, hsz, hK, hSK⟩ := id hC
  obtain ⟨o1, o2, o3, o4, o5, o6⟩ := id hO
  have k1 := kk.1.1
  have k2 := kk.1.2.1
  have c1 := hCl.1.1
  have c2 := hCl.1.2.1
  have g3 := hS.1
  have g4 := hS.2.1
  have hcw : CallB R s args μ.1.cls idx ν.1 ν.2.1 ν.2.2.1 ν.2.2.2 (wsM ν) (rmD dc M M1) (mx M1 - mx M) (ms M1 - ms M) k ∧ (Cond.static ν.1).before args s = true := by
    refine ⟨callB_of k hts (wsM_good hO) rfl rfl rfl (hts _ o2) (hts _ hw) ⟨o4, o5, o6⟩ ⟨?_, ?_⟩, hts _ hO2⟩
    · show dc + 1 ≤ R.frames; omega
    · show 8 + (ν.2.2.1 + 11) + 41 * dc ≤ R.locals; omega
  refine Fr_behind (ν := ν) hCl.1 kk hC hS hl hn (va_runS (As := As) (rest := st) ⟨hx, hb, hml, hown, hts⟩ hCl.2 hcw ⟨PcG_blind g _ M, Pc_now hC hS hz⟩ rfl hlen hl.1 hs (lv_room hcat) hd ⟨by omega, by omega⟩)
theorem fr_callI {ν : MD} {idx dc k a : Nat} {As : List Value} (hret : ν.2.2.2 = none) (hin : ν.1.name = "<init>") (hd : decode μ.2.1 pc = .ok (.invokespecial idx, 3)) (hn : pc + 3 = n) (hw : Cond.methodLink μ.1.cls idx ν.1 ∈ TB) (hO : MO ν k) (hO2 : Cond.instanceMethod ν.1 ∈ TB) (hdc : dc + 1 ≤ d) (hs : stk = As.reverse ++ rf g a :: st) (hlen : As.length = k) (hcat : (st.map fun v => v.category).sum ≤ 8) (hCl : Cl g dc ν (rf g a :: As) M none M1) (kk : Fr g d μ n lv st M1 r M') : Fr g d μ pc lv stk M r M' := by
  refine ⟨hCl.1.tr kk.1, fun p e s m args below meth c R x0 s0 H locs cells slots ls hC hS hl => ?_⟩
  refine W_sz (fun hz => ?_)
  obtain ⟨hx, hb, hml, hown, hts, hrt, hlk, hnm, hdf, hdl, hrc, hrs, hsz, hK, hSK⟩ := id hC
  obtain ⟨o1, o2, o3, o4, o5, o6⟩ := id hO
  have k1 := kk.1.1
  have k2 := kk.1.2.1
  have c1 := hCl.1.1
  have c2 := hCl.1.2.1
  have g3 := hS.1
  have g4 := hS.2.1
  have hcw : CallB R s args μ.1.cls idx ν.1 ν.2.1 ν.2.2.1 none (wsM ν) (rmD dc M M1) (mx M1 - mx M) (ms M1 - ms M) k ∧ ν.1.name = "<init>" ∧ (Cond.instanceMethod ν.1).before args s = true := by
    refine ⟨?_, hin, hts _ hO2⟩
    rw [← hret]
    refine callB_of k hts (wsM_good hO) rfl rfl rfl (hts _ o2) (hts _ hw) ⟨o4, o5, o6⟩ ⟨?_, ?_⟩
    · show dc + 1 ≤ R.frames; omega
    · show 8 + (ν.2.2.1 + 11) + 41 * dc ≤ R.locals; omega
  refine Fr_behind (ν := ν) (v := none) hCl.1 kk hC hS hl hn (va_runI (As := As) (rest := st) ⟨hx, hb, hml, hown, hts⟩ hCl.2 hcw ⟨PcG_blind g _ M, Pc_now hC hS hz⟩ rfl hlen hl.1 hs (lv_room hcat) hd ⟨by omega, by omega⟩)
theorem fr_callSN {ν : MD} {idx dc k : Nat} {As : List Value} {v : Option Value} (hd : decode μ.2.1 pc = .ok (.invokestatic idx, 3)) (hn : pc + 3 = n) (hw : (μ.1.cls, idx, ν.1) ∈ nestL) (hO : MO ν k) (hO2 : Cond.static ν.1 ∈ TB) (hdc : dc + 1 ≤ d) (hs : stk = As.reverse ++ st) (hlen : As.length = k) (hcat : (st.map fun v => v.category).sum ≤ 8) (hCl : Cl g dc ν As M v M1) (kk : Fr g d μ n lv (v.toList ++ st) M1 r M') : Fr g d μ pc lv stk M r M' := by
  refine ⟨hCl.1.tr kk.1, fun p e s m args below meth c R x0 s0 H locs cells slots ls hC hS hl => ?_⟩
  refine W_sz (fun hz => ?_)
  obtain ⟨hx, hb, hml, hown, hts, hret, hlk, hnm, hdf, hdl, hrc, hrs, hsz, hK, hSK⟩ := id hC
  obtain ⟨o1, o2, o3, o4, o5, o6⟩ := id hO
  have k1 := kk.1.1
  have k2 := kk.1.2.1
  have c1 := hCl.1.1
  have c2 := hCl.1.2.1
  have g3 := hS.1
  have g4 := hS.2.1
  have hcw : va_CN R s args μ.1.cls idx ν.1 RX11 ν.2.1 ν.2.2.1 ν.2.2.2 (wsM ν) (rmD dc M M1) (mx M1 - mx M) (ms M1 - ms M) k ∧ (Cond.static ν.1).before args s = true ∧ True := by
    refine ⟨va_cnB k hts (wsM_good hO) rfl rfl rfl (hSK.2.1 _ hw) (hts _ o2) ⟨o4, o5, o6⟩ ⟨?_, ?_⟩, hts _ hO2, trivial⟩
    · show dc + 1 ≤ R.frames; omega
    · show 8 + (ν.2.2.1 + 11) + 41 * dc ≤ R.locals; omega
  refine Fr_behind (ν := ν) hCl.1 kk hC hS hl hn (va_runSN (As := As) (rest := st) ⟨hx, hb, hml, hown, hts⟩ hCl.2 hcw ⟨PcG_blind g _ M, Pc_now hC hS hz⟩ rfl hlen hl.1 hs (lv_room hcat) hd ⟨by omega, by omega⟩)
theorem fr_callIN {ν : MD} {idx dc k a : Nat} {As : List Value} (hret : ν.2.2.2 = none) (hin : ν.1.name = "<init>") (hd : decode μ.2.1 pc = .ok (.invokespecial idx, 3)) (hn : pc + 3 = n) (hw : (μ.1.cls, idx, ν.1) ∈ nestL) (hO : MO ν k) (hO2 : Cond.instanceMethod ν.1 ∈ TB) (hdc : dc + 1 ≤ d) (hs : stk = As.reverse ++ rf g a :: st) (hlen : As.length = k) (hcat : (st.map fun v => v.category).sum ≤ 8) (hCl : Cl g dc ν (rf g a :: As) M none M1) (kk : Fr g d μ n lv st M1 r M') : Fr g d μ pc lv stk M r M' := by
  refine ⟨hCl.1.tr kk.1, fun p e s m args below meth c R x0 s0 H locs cells slots ls hC hS hl => ?_⟩
  refine W_sz (fun hz => ?_)
  obtain ⟨hx, hb, hml, hown, hts, hrt, hlk, hnm, hdf, hdl, hrc, hrs, hsz, hK, hSK⟩ := id hC
  obtain ⟨o1, o2, o3, o4, o5, o6⟩ := id hO
  have k1 := kk.1.1
  have k2 := kk.1.2.1
  have c1 := hCl.1.1
  have c2 := hCl.1.2.1
  have g3 := hS.1
  have g4 := hS.2.1
  have hcw : va_CN R s args μ.1.cls idx ν.1 RX11 ν.2.1 ν.2.2.1 none (wsM ν) (rmD dc M M1) (mx M1 - mx M) (ms M1 - ms M) k ∧ ν.1.name = "<init>" ∧ (Cond.instanceMethod ν.1).before args s = true := by
    refine ⟨?_, hin, hts _ hO2⟩
    rw [← hret]
    refine va_cnB k hts (wsM_good hO) rfl rfl rfl (hSK.2.1 _ hw) (hts _ o2) ⟨o4, o5, o6⟩ ⟨?_, ?_⟩
    · show dc + 1 ≤ R.frames; omega
    · show 8 + (ν.2.2.1 + 11) + 41 * dc ≤ R.locals; omega
  refine Fr_behind (ν := ν) (v := none) hCl.1 kk hC hS hl hn (va_runIN (As := As) (rest := st) ⟨hx, hb, hml, hown, hts⟩ hCl.2 hcw ⟨PcG_blind g _ M, Pc_now hC hS hz⟩ rfl hlen hl.1 hs (lv_room hcat) hd ⟨by omega, by omega⟩)
theorem fr_ldcS {i : Nat} (hi : i < 20) (ho : μ.1.cls = RX9) (hd : decode μ.2.1 pc = .ok (.ldc (txtL.getD i (0, "")).1, 2)) (hn : pc + 2 = n) (kk : Fr g d μ n lv (.ref (gK g i) :: st) M r M') : Fr g d μ pc lv st M r M' := by
  subst hn
  refine ⟨kk.1, fun p e s m args below meth c R x0 s0 H locs cells slots ls hC hS hl => ?_⟩
  obtain ⟨hx, hb, hml, hown, hts, hrt, hlk, hnm, hdf, hdl, hrc, hrs, hsz, hK, hSK⟩ := id hC
  rw [ho] at hown
  exact va_ldcS hx hb hown (hSK.2.2.2.2.2.1 i hi) hd (kk.2 p e s m args below meth c R x0 s0 H locs cells slots ls hC hS hl)
theorem fr_obj {idx a : Nat} (hd : decode μ.2.1 pc = .ok (.invokespecial idx, 3)) (hn : pc + 3 = n) (hw : Cond.methodLink μ.1.cls idx Lib.objectInit ∈ TB ∧ Cond.instanceMethod Lib.objectInit ∈ TB ∧ Cond.code Lib.objectInit ⟨#[0xb1]⟩ 1 none ∈ TB) (hdc : 1 ≤ d) (hcat : (st.map fun v => v.category).sum ≤ 8) (kk : Fr g d μ n lv st M r M') : Fr g d μ pc lv (rf g a :: st) M r M' := by
  subst hn
  refine ⟨kk.1, fun p e s m args below meth c R x0 s0 H locs cells slots ls hC hS hl => ?_⟩
  obtain ⟨hx, hb, hml, hown, hts, hrt, hlk, hnm, hdf, hdl, hrc, hrs, hsz, hK, hSK⟩ := id hC
  have hrm := lv_room (m := m) (pc := pc) (ls := ls) (rest := rf g a :: st) hcat
  exact W.objInit (a := gb g + a) (rest := st) hx hb hown (hts _ hw.1) (hts _ hw.2.1) (hts _ hw.2.2) rfl (hl.1.trans hml.symm) rfl hd (by omega) (by omega) (kk.2 p e s m args below meth c R x0 s0 H locs cells slots ls hC hS hl)

theorem fr_iret {v : Int32} (ht : μ.2.2.2 = some .int) (hd : decode μ.2.1 pc = .ok (.ireturn, 1)) (hr : r = some (.int v)) (hM : M' = M) : Fr g d μ pc lv [.int v] M r M' := by
  subst hr; subst hM
  refine ⟨Ext.rf _, fun p e s m args below meth c R x0 s0 H locs cells slots ls hC hS hl => ?_⟩
  obtain ⟨hx, hb, hml, hown, hts, hrt, hlk, hnm, hdf, hdl, hrc, hrs, hsz, hK, hSK⟩ := id hC
  have e1 : mx M' - x0 = cells := by have := hS.1; omega
  have e2 : ms M' - s0 = slots := by have := hS.2.1; omega
  rw [e1, e2]
  exact W.iret hx hb (hrt.trans ht) (fun t ht hW => ⟨rfl, by rw [ht]; exact hS.2.2.1, hS.2.2.2.F ht⟩) (fun q hq => hS.2.2.2.2.2 q hq) hd hlk
theorem fr_zret {v : Int32} (hv : v = 0 ∨ v = 1) (ht : μ.2.2.2 = some .boolean) (hd : decode μ.2.1 pc = .ok (.ireturn, 1)) (hr : r = some (.int v)) (hM : M' = M) : Fr g d μ pc lv [.int v] M r M' := by
  subst hr; subst hM
  refine ⟨Ext.rf _, fun p e s m args below meth c R x0 s0 H locs cells slots ls hC hS hl => ?_⟩
  obtain ⟨hx, hb, hml, hown, hts, hrt, hlk, hnm, hdf, hdl, hrc, hrs, hsz, hK, hSK⟩ := id hC
  have e1 : mx M' - x0 = cells := by have := hS.1; omega
  have e2 : ms M' - s0 = slots := by have := hS.2.1; omega
  rw [e1, e2]
  exact W.zret hx hb (hrt.trans ht) (by rcases hv with rfl | rfl <;> rfl) (fun t ht hW => ⟨rfl, by rw [ht]; exact hS.2.2.1, hS.2.2.2.F ht⟩) (fun q hq => hS.2.2.2.2.2 q hq) hd hlk
theorem fr_lret {v : Int64} (ht : μ.2.2.2 = some .long) (hd : decode μ.2.1 pc = .ok (.lreturn, 1)) (hr : r = some (.long v)) (hM : M' = M) : Fr g d μ pc lv [.long v] M r M' := by
  subst hr; subst hM
  refine ⟨Ext.rf _, fun p e s m args below meth c R x0 s0 H locs cells slots ls hC hS hl => ?_⟩
  obtain ⟨hx, hb, hml, hown, hts, hrt, hlk, hnm, hdf, hdl, hrc, hrs, hsz, hK, hSK⟩ := id hC
  have e1 : mx M' - x0 = cells := by have := hS.1; omega
  have e2 : ms M' - s0 = slots := by have := hS.2.1; omega
  rw [e1, e2]
  exact W.lret hx hb (hrt.trans ht) (fun t ht hW => ⟨rfl, by rw [ht]; exact hS.2.2.1, hS.2.2.2.F ht⟩) (fun q hq => hS.2.2.2.2.2 q hq) hd hlk
theorem fr_vret (ht : μ.2.2.2 = none) (hd : decode μ.2.1 pc = .ok (.return_, 1)) (hr : r = none) (hM : M' = M) : Fr g d μ pc lv [] M r M' := by
  subst hr; subst hM
  refine ⟨Ext.rf _, fun p e s m args below meth c R x0 s0 H locs cells slots ls hC hS hl => ?_⟩
  obtain ⟨hx, hb, hml, hown, hts, hrt, hlk, hnm, hdf, hdl, hrc, hrs, hsz, hK, hSK⟩ := id hC
  have e1 : mx M' - x0 = cells := by have := hS.1; omega
  have e2 : ms M' - s0 = slots := by have := hS.2.1; omega
  rw [e1, e2]
  exact W.vret hx hb (hrt.trans ht) (fun t ht hW => ⟨rfl, by rw [ht]; exact hS.2.2.1, hS.2.2.2.F ht⟩) (fun q hq => hS.2.2.2.2.2 q hq) hd hlk
theorem fr_aret {a : Nat} {C : String} (ht : μ.2.2.2 = some (.object C)) (hd : decode μ.2.1 pc = .ok (.areturn, 1)) (hr : r = some (rf g a)) (hM : M' = M) : Fr g d μ pc lv [rf g a] M r M' := by
  subst hr; subst hM
  refine ⟨Ext.rf _, fun p e s m args below meth c R x0 s0 H locs cells slots ls hC hS hl => ?_⟩
  obtain ⟨hx, hb, hml, hown, hts, hrt, hlk, hnm, hdf, hdl, hrc, hrs, hsz, hK, hSK⟩ := id hC
  have e1 : mx M' - x0 = cells := by have := hS.1; omega
  have e2 : ms M' - s0 = slots := by have := hS.2.1; omega
  rw [e1, e2]
  exact W.aret hx hb (hrt.trans ht) (Or.inl ⟨_, rfl⟩) (Or.inr ⟨_, rfl⟩) (fun t ht hW => ⟨rfl, by rw [ht]; exact hS.2.2.1, hS.2.2.2.F ht⟩) (fun q hq => hS.2.2.2.2.2 q hq) hd hlk
theorem fr_aretA {a : Nat} {C : FieldType} (ht : μ.2.2.2 = some (.array C)) (hd : decode μ.2.1 pc = .ok (.areturn, 1)) (hr : r = some (rf g a)) (hM : M' = M) : Fr g d μ pc lv [rf g a] M r M' := by
  subst hr; subst hM
  refine ⟨Ext.rf _, fun p e s m args below meth c R x0 s0 H locs cells slots ls hC hS hl => ?_⟩
  obtain ⟨hx, hb, hml, hown, hts, hrt, hlk, hnm, hdf, hdl, hrc, hrs, hsz, hK, hSK⟩ := id hC
  have e1 : mx M' - x0 = cells := by have := hS.1; omega
  have e2 : ms M' - s0 = slots := by have := hS.2.1; omega
  rw [e1, e2]
  exact W.aret hx hb (hrt.trans ht) (Or.inr ⟨_, rfl⟩) (Or.inr ⟨_, rfl⟩) (fun t ht hW => ⟨rfl, by rw [ht]; exact hS.2.2.1, hS.2.2.2.F ht⟩) (fun q hq => hS.2.2.2.2.2 q hq) hd hlk
theorem fr_aretN {C : String} (ht : μ.2.2.2 = some (.object C)) (hd : decode μ.2.1 pc = .ok (.areturn, 1)) (hr : r = some .null) (hM : M' = M) : Fr g d μ pc lv [.null] M r M' := by
  subst hr; subst hM
  refine ⟨Ext.rf _, fun p e s m args below meth c R x0 s0 H locs cells slots ls hC hS hl => ?_⟩
  obtain ⟨hx, hb, hml, hown, hts, hrt, hlk, hnm, hdf, hdl, hrc, hrs, hsz, hK, hSK⟩ := id hC
  have e1 : mx M' - x0 = cells := by have := hS.1; omega
  have e2 : ms M' - s0 = slots := by have := hS.2.1; omega
  rw [e1, e2]
  exact W.aret hx hb (hrt.trans ht) (Or.inl ⟨_, rfl⟩) (Or.inl rfl) (fun t ht hW => ⟨rfl, by rw [ht]; exact hS.2.2.1, hS.2.2.2.F ht⟩) (fun q hq => hS.2.2.2.2.2 q hq) hd hlk
theorem fr_aretS {a : Nat} {C : String} (ht : μ.2.2.2 = some (.object C)) (hd : decode μ.2.1 pc = .ok (.areturn, 1)) (hr : r = some (.ref a)) (hM : M' = M) : Fr g d μ pc lv [.ref a] M r M' := by
  subst hr; subst hM
  refine ⟨Ext.rf _, fun p e s m args below meth c R x0 s0 H locs cells slots ls hC hS hl => ?_⟩
  obtain ⟨hx, hb, hml, hown, hts, hrt, hlk, hnm, hdf, hdl, hrc, hrs, hsz, hK, hSK⟩ := id hC
  have e1 : mx M' - x0 = cells := by have := hS.1; omega
  have e2 : ms M' - s0 = slots := by have := hS.2.1; omega
  rw [e1, e2]
  exact W.aret hx hb (hrt.trans ht) (Or.inl ⟨_, rfl⟩) (Or.inr ⟨_, rfl⟩) (fun t ht hW => ⟨rfl, by rw [ht]; exact hS.2.2.1, hS.2.2.2.F ht⟩) (fun q hq => hS.2.2.2.2.2 q hq) hd hlk
theorem fr_mmax {idx : Nat} {x y : Int32} (hd : decode μ.2.1 pc = .ok (.invokestatic idx, 3)) (hn : pc + 3 = n) (hw : Cond.methodLink μ.1.cls idx Lib.Math.max.name ∈ TB) (hw2 : Cond.static Lib.Math.max.name ∈ TB ∧ Cond.initialized "java/lang/Math" ∈ TB ∧ Cond.code Lib.Math.max.name Lib.Math.max.code 2 (some .int) ∈ TB) (hdc : 1 ≤ d) (hcat : (st.map fun v => v.category).sum ≤ 8) (kk : Fr g d μ n lv (.int (if x < y then y else x) :: st) M r M') : Fr g d μ pc lv (.int y :: .int x :: st) M r M' := by
  subst hn
  refine ⟨kk.1, fun p e s m args below meth c R x0 s0 H locs cells slots ls hC hS hl => ?_⟩
  obtain ⟨hx, hb, hml, hown, hts, hrt, hlk, hnm, hdf, hdl, hrc, hrs, hsz, hK, hSK⟩ := id hC
  have k1 := kk.1.1
  have k2 := kk.1.2.1
  have g3 := hS.1
  have g4 := hS.2.1
  exact va_mmax hx hb (hml.trans hl.1.symm) hown (hts _ hw) (hts _ hw2.1) (hts _ hw2.2.1) (hts _ hw2.2.2) (by omega) (by omega) (by omega) (by omega) hd (kk.2 p e s m args below meth c R x0 s0 H locs cells slots ls hC hS hl)
theorem fr_mmin {idx : Nat} {x y : Int32} (hd : decode μ.2.1 pc = .ok (.invokestatic idx, 3)) (hn : pc + 3 = n) (hw : Cond.methodLink μ.1.cls idx Lib.Math.min.name ∈ TB) (hw2 : Cond.static Lib.Math.min.name ∈ TB ∧ Cond.initialized "java/lang/Math" ∈ TB ∧ Cond.code Lib.Math.min.name Lib.Math.min.code 2 (some .int) ∈ TB) (hdc : 1 ≤ d) (hcat : (st.map fun v => v.category).sum ≤ 8) (kk : Fr g d μ n lv (.int (if y < x then y else x) :: st) M r M') : Fr g d μ pc lv (.int y :: .int x :: st) M r M' := by
  subst hn
  refine ⟨kk.1, fun p e s m args below meth c R x0 s0 H locs cells slots ls hC hS hl => ?_⟩
  obtain ⟨hx, hb, hml, hown, hts, hrt, hlk, hnm, hdf, hdl, hrc, hrs, hsz, hK, hSK⟩ := id hC
  have k1 := kk.1.1
  have k2 := kk.1.2.1
  have g3 := hS.1
  have g4 := hS.2.1
  exact va_mmin hx hb (hml.trans hl.1.symm) hown (hts _ hw) (hts _ hw2.1) (hts _ hw2.2.1) (hts _ hw2.2.2) (by omega) (by omega) (by omega) (by omega) hd (kk.2 p e s m args below meth c R x0 s0 H locs cells slots ls hC hS hl)
theorem fr_mmax_long {idx : Nat} {x y : Int64} (hd : decode μ.2.1 pc = .ok (.invokestatic idx, 3)) (hn : pc + 3 = n) (hw : Cond.methodLink μ.1.cls idx Lib.MathLoose.max_long.x ∈ TB) (hw2 : Cond.static Lib.MathLoose.max_long.x ∈ TB ∧ Cond.initialized "java/lang/Math" ∈ TB ∧ Cond.code Lib.MathLoose.max_long.x Lib.MathLoose.max_long.code 4 (some .long) ∈ TB) (hdc : 1 ≤ d) (hcat : (st.map fun v => v.category).sum ≤ 8) (kk : Fr g d μ n lv (.long (if y < x then x else y) :: st) M r M') : Fr g d μ pc lv (.long y :: .long x :: st) M r M' := by
  subst hn
  refine ⟨kk.1, fun p e s m args below meth c R x0 s0 H locs cells slots ls hC hS hl => ?_⟩
  obtain ⟨hx, hb, hml, hown, hts, hrt, hlk, hnm, hdf, hdl, hrc, hrs, hsz, hK, hSK⟩ := id hC
  have k1 := kk.1.1
  have k2 := kk.1.2.1
  have g3 := hS.1
  have g4 := hS.2.1
  exact va_mmax_long hx hb (hml.trans hl.1.symm) hown (hts _ hw) (hts _ hw2.1) (hts _ hw2.2.1) (hts _ hw2.2.2) (by omega) (by omega) (by omega) (by omega) hd (kk.2 p e s m args below meth c R x0 s0 H locs cells slots ls hC hS hl)
theorem fr_mmin_long {idx : Nat} {x y : Int64} (hd : decode μ.2.1 pc = .ok (.invokestatic idx, 3)) (hn : pc + 3 = n) (hw : Cond.methodLink μ.1.cls idx Lib.MathLoose.min_long.x ∈ TB) (hw2 : Cond.static Lib.MathLoose.min_long.x ∈ TB ∧ Cond.initialized "java/lang/Math" ∈ TB ∧ Cond.code Lib.MathLoose.min_long.x Lib.MathLoose.min_long.code 4 (some .long) ∈ TB) (hdc : 1 ≤ d) (hcat : (st.map fun v => v.category).sum ≤ 8) (kk : Fr g d μ n lv (.long (if y < x then y else x) :: st) M r M') : Fr g d μ pc lv (.long y :: .long x :: st) M r M' := by
  subst hn
  refine ⟨kk.1, fun p e s m args below meth c R x0 s0 H locs cells slots ls hC hS hl => ?_⟩
  obtain ⟨hx, hb, hml, hown, hts, hrt, hlk, hnm, hdf, hdl, hrc, hrs, hsz, hK, hSK⟩ := id hC
  have k1 := kk.1.1
  have k2 := kk.1.2.1
  have g3 := hS.1
  have g4 := hS.2.1
  exact va_mmin_long hx hb (hml.trans hl.1.symm) hown (hts _ hw) (hts _ hw2.1) (hts _ hw2.2.1) (hts _ hw2.2.2) (by omega) (by omega) (by omega) (by omega) hd (kk.2 p e s m args below meth c R x0 s0 H locs cells slots ls hC hS hl)
theorem fr_copyI {idx a b : Nat} {sp dp z : Int32} (hd : decode μ.2.1 pc = .ok (.invokestatic idx, 3)) (hn : pc + 3 = n) (hw : Cond.methodLink μ.1.cls idx arraycopyName ∈ TB) (hw2 : Cond.native arraycopyName ∈ TB ∧ Cond.static arraycopyName ∈ TB ∧ Cond.initialized "java/lang/System" ∈ TB) (hdc : 1 ≤ d) (hcat : (st.map fun v => v.category).sum ≤ 8) (ha : KM M.1 a 13) (hb' : KM M.1 b 13) (h1 : ¬ sp < 0) (h2 : ¬ dp < 0) (h3 : ¬ z < 0) (h4 : sp.toNatClampNeg + z.toNatClampNeg ≤ mN M a) (h5 : dp.toNatClampNeg + z.toNatClampNeg ≤ mN M b) (kk : Fr g d μ n lv st (sI M b (va_cpy (mI M a) (mI M b) sp.toNatClampNeg dp.toNatClampNeg z.toNatClampNeg)) r M') : Fr g d μ pc lv (.int z :: .int dp :: rf g b :: .int sp :: rf g a :: st) M r M' := by
  subst hn
  refine ⟨Ext.tr ⟨Nat.le_refl _, Nat.le_refl _, fun _ _ => ⟨rfl, rfl⟩⟩ kk.1, fun p e s m args below meth c R x0 s0 H locs cells slots ls hC hS hl => ?_⟩
  obtain ⟨hx, hb, hml, hown, hts, hrt, hlk, hnm, hdf, hdl, hrc, hrs, hsz, hK, hSK⟩ := id hC
  have w0 : (wsO g M)[a]? = some (gb g + a, .inl (gA g 0, mN M a, .inl (mI M a))) := by rw [wsO_get ha.1, ce_13 ha.2]
  have w1 : (wsO g M)[b]? = some (gb g + b, .inl (gA g 0, mN M b, .inl (mI M b))) := by rw [wsO_get hb'.1, ce_13 hb'.2]
  have hnf : nativeFrameWords "java/lang/System" "arraycopy" 5 + 11 ≤ 33 := by decide +kernel
  refine va_copyi hx hb (hml.trans hl.1.symm) hown (hts _ hw) (hts _ hw2.1) (hts _ hw2.2.1) (hts _ hw2.2.2) hK hS.2.2.1 (wsO_D g M) hS.2.2.2 a b 0 0 w0 w1 rfl rfl rfl h1 h2 h3 h4 h5 (fun _ _ => rfl) (by omega) (by omega) hd (fun H1 locs1 hP1 hD1 hS1 => ?_)
  exact kk.2 p e s m args below meth c R x0 s0 H1 locs1 cells slots ls hC (Sd_set hS hb'.1 rfl rfl (by rw [ce_13 (M := sI M b (va_cpy (mI M a) (mI M b) sp.toNatClampNeg dp.toNatClampNeg z.toNatClampNeg)) hb'.2]; exact congrArg (fun f => Sum.inl (gA g 0, mN M b, Sum.inl f)) (rw1_s (mI M) b _)) (fun q hq => ce_sI q hq) hP1 hS1) hl
theorem fr_copyL {idx a b : Nat} {sp dp z : Int32} (hd : decode μ.2.1 pc = .ok (.invokestatic idx, 3)) (hn : pc + 3 = n) (hw : Cond.methodLink μ.1.cls idx arraycopyName ∈ TB) (hw2 : Cond.native arraycopyName ∈ TB ∧ Cond.static arraycopyName ∈ TB ∧ Cond.initialized "java/lang/System" ∈ TB) (hdc : 1 ≤ d) (hcat : (st.map fun v => v.category).sum ≤ 8) (ha : KM M.1 a 14) (hb' : KM M.1 b 14) (h1 : ¬ sp < 0) (h2 : ¬ dp < 0) (h3 : ¬ z < 0) (h4 : sp.toNatClampNeg + z.toNatClampNeg ≤ mN M a) (h5 : dp.toNatClampNeg + z.toNatClampNeg ≤ mN M b) (kk : Fr g d μ n lv st (sL M b (va_cpy (mL M a) (mL M b) sp.toNatClampNeg dp.toNatClampNeg z.toNatClampNeg)) r M') : Fr g d μ pc lv (.int z :: .int dp :: rf g b :: .int sp :: rf g a :: st) M r M' := by
  subst hn
  refine ⟨Ext.tr ⟨Nat.le_refl _, Nat.le_refl _, fun _ _ => ⟨rfl, rfl⟩⟩ kk.1, fun p e s m args below meth c R x0 s0 H locs cells slots ls hC hS hl => ?_⟩
  obtain ⟨hx, hb, hml, hown, hts, hrt, hlk, hnm, hdf, hdl, hrc, hrs, hsz, hK, hSK⟩ := id hC
  have w0 : (wsO g M)[a]? = some (gb g + a, .inl (gA g 1, mN M a, .inr (.inl (mL M a)))) := by rw [wsO_get ha.1, ce_14 ha.2]
  have w1 : (wsO g M)[b]? = some (gb g + b, .inl (gA g 1, mN M b, .inr (.inl (mL M b)))) := by rw [wsO_get hb'.1, ce_14 hb'.2]
  have hnf : nativeFrameWords "java/lang/System" "arraycopy" 5 + 11 ≤ 33 := by decide +kernel
  refine va_copyl hx hb (hml.trans hl.1.symm) hown (hts _ hw) (hts _ hw2.1) (hts _ hw2.2.1) (hts _ hw2.2.2) hK hS.2.2.1 (wsO_D g M) hS.2.2.2 a b 1 1 w0 w1 rfl rfl rfl h1 h2 h3 h4 h5 (fun _ _ => rfl) (by omega) (by omega) hd (fun H1 locs1 hP1 hD1 hS1 => ?_)
  exact kk.2 p e s m args below meth c R x0 s0 H1 locs1 cells slots ls hC (Sd_set hS hb'.1 rfl rfl (by rw [ce_14 (M := sL M b (va_cpy (mL M a) (mL M b) sp.toNatClampNeg dp.toNatClampNeg z.toNatClampNeg)) hb'.2]; exact congrArg (fun f => Sum.inl (gA g 1, mN M b, (fun z => Sum.inr (Sum.inl z)) f)) (rw1_s (mL M) b _)) (fun q hq => ce_sL q hq) hP1 hS1) hl
theorem fr_tabK {dflt lo hi : Int} {offs : Array Int} {len : Nat} {x y : Int32} {off : Int} (hxy : x = y) (hd : decode μ.2.1 pc = .ok (.tableswitch dflt lo hi offs, len)) (h1 : ¬ y.toInt < lo) (h2 : ¬ hi < y.toInt) (ho : offs[(y.toInt - lo).toNat]? = some off) (ht : (pc : Int) + off = (n : Int)) (k : Fr g d μ n lv st M r M') : Fr g d μ pc lv (.int x :: st) M r M' := by
  subst hxy
  exact fr_tabIn hd h1 h2 ho ht k
theorem fr_tabD {dflt lo hi : Int} {offs : Array Int} {len : Nat} {x a b : Int32} (hd : decode μ.2.1 pc = .ok (.tableswitch dflt lo hi offs, len)) (h : x < a ∨ b < x) (ha : a.toInt = lo) (hb : b.toInt = hi) (ht : (pc : Int) + dflt = (n : Int)) (k : Fr g d μ n lv st M r M') : Fr g d μ pc lv (.int x :: st) M r M' := by
  refine fr_tabOut hd ?_ ht k
  rcases h with h | h
  · exact Or.inl (by rw [← ha]; exact Int32.lt_iff_toInt_lt.mp h)
  · exact Or.inr (by rw [← hb]; exact Int32.lt_iff_toInt_lt.mp h)
theorem fr_lookK {dflt : Int} {ps : Array (Int × Int)} {len : Nat} {x y : Int32} {off : Int} (hxy : x = y) (hd : decode μ.2.1 pc = .ok (.lookupswitch dflt ps, len)) (hp : (ps.toList.zip (ps.toList.drop 1)).all (fun (a, next) => a.1 < next.1) = true) (ho : Op.lookupswitch.offset ps.toList dflt y.toInt = off) (ht : (pc : Int) + off = (n : Int)) (k : Fr g d μ n lv st M r M') : Fr g d μ pc lv (.int x :: st) M r M' := by
  subst hxy
  exact fr_look hd hp ho ht k
theorem fr_nullN {tgt : Nat} {off : Int} (hd : decode μ.2.1 pc = .ok (.ifnull off, 3)) (ht : (pc : Int) + off = (tgt : Int)) (k : Fr g d μ tgt lv st M r M') : Fr g d μ pc lv (.null :: st) M r M' :=
  fr_pure (fun p e s m args below meth c R H locs cells slots ls Q hx hb hl hown hts kk => lv_ifnullN hx hb hd ht kk) k
theorem fr_nullR {a : Nat} {off : Int} (hd : decode μ.2.1 pc = .ok (.ifnull off, 3)) (hn : pc + 3 = n) (k : Fr g d μ n lv st M r M') : Fr g d μ pc lv (rf g a :: st) M r M' := by
  subst hn
  exact fr_pure (fun p e s m args below meth c R H locs cells slots ls Q hx hb hl hown hts kk => lv_ifnull hx hb hd kk) k
theorem fr_nnN {off : Int} (hd : decode μ.2.1 pc = .ok (.ifnonnull off, 3)) (hn : pc + 3 = n) (k : Fr g d μ n lv st M r M') : Fr g d μ pc lv (.null :: st) M r M' := by
  subst hn
  exact fr_pure (fun p e s m args below meth c R H locs cells slots ls Q hx hb hl hown hts kk => lv_ifnonnullN hx hb hd kk) k
theorem fr_nnR {a tgt : Nat} {off : Int} (hd : decode μ.2.1 pc = .ok (.ifnonnull off, 3)) (ht : (pc : Int) + off = (tgt : Int)) (k : Fr g d μ tgt lv st M r M') : Fr g d μ pc lv (rf g a :: st) M r M' :=
  fr_pure (fun p e s m args below meth c R H locs cells slots ls Q hx hb hl hown hts kk => lv_ifnonnull hx hb hd ht kk) k
theorem fr_aload_nN {i : Fin 4} {q : Nat} (h : lv[q]? = some ((i : Nat), .null)) (hd : decode μ.2.1 pc = .ok (.aload_n i, 1)) (hn : pc + 1 = n) (k : Fr g d μ n lv (.null :: st) M r M') : Fr g d μ pc lv st M r M' := by
  subst hn
  exact fr_pure (fun p e s m args below meth c R H locs cells slots ls Q hx hb hl hown hts kk => lv_aload_nN hx hb hd rfl (lv_at hl q h) kk) k
theorem fr_aloadN {i q : Nat} (h : lv[q]? = some (i, .null)) (hd : decode μ.2.1 pc = .ok (.aload i, 2)) (hn : pc + 2 = n) (k : Fr g d μ n lv (.null :: st) M r M') : Fr g d μ pc lv st M r M' := by
  subst hn
  exact fr_pure (fun p e s m args below meth c R H locs cells slots ls Q hx hb hl hown hts kk => lv_aloadN hx hb hd (lv_at hl q h) kk) k
theorem fr_astore_nN {i : Fin 4} (hd : decode μ.2.1 pc = .ok (.astore_n i, 1)) (hn : pc + 1 = n) (hi : (i : Nat) < μ.2.2.1) (hl' : ((i : Nat), Value.null) :: lv.filter (fun q => !(q.1 == (i : Nat)) && !(q.1 + 1 == (i : Nat) && q.2.category == 2)) = lv') (k : Fr g d μ n lv' st M r M') : Fr g d μ pc lv (.null :: st) M r M' := by
  subst hn
  exact fr_lv (fun p e s m args below meth c R H locs cells slots ls Q hx hb hl kk => lv_astore_nN hx hb hd rfl hl hi hl' kk) k
theorem fr_astoreN {i : Nat} (hd : decode μ.2.1 pc = .ok (.astore i, 2)) (hn : pc + 2 = n) (hi : i < μ.2.2.1) (hl' : (i, Value.null) :: lv.filter (fun q => !(q.1 == i) && !(q.1 + 1 == i && q.2.category == 2)) = lv') (k : Fr g d μ n lv' st M r M') : Fr g d μ pc lv (.null :: st) M r M' := by
  subst hn
  exact fr_lv (fun p e s m args below meth c R H locs cells slots ls Q hx hb hl kk => lv_astoreN hx hb hd hl hi hl' kk) k
theorem fr_aastN {a : Nat} {i : Int32} (hd : decode μ.2.1 pc = .ok (.aastore, 1)) (hn : pc + 1 = n) (ha : KM M.1 a 16) (hi : vp_in i (mN M a)) (kk : Fr g d μ n lv st (sR M a (va_up (mR M a) i.toNatClampNeg none)) r M') : Fr g d μ pc lv (.null :: .int i :: rf g a :: st) M r M' := by
  subst hn
  refine ⟨Ext.tr ⟨Nat.le_refl _, Nat.le_refl _, fun _ _ => ⟨rfl, rfl⟩⟩ kk.1, fun p e s m args below meth c R x0 s0 H locs cells slots ls hC hS hl => ?_⟩
  have hw : (wsO g M)[a]? = some (gb g + a, .inl (gA g 3, mN M a, .inr (.inr (.inr (.inr (fun i => (mR M a i).map (fun b => gb g + b))))))) := by rw [wsO_get ha.1, ce_16 ha.2]
  refine va_astqN (C := RX6) hC.1 hC.2.1 hC.2.2.2.2.2.2.2.2.2.2.2.2.2.1 hS.2.2.1 (wsO_D g M) hS.2.2.2 a 3 hw rfl hi hd (fun H1 locs1 hP1 hD1 hS1 => ?_)
  refine kk.2 p e s m args below meth c R x0 s0 H1 locs1 cells slots ls hC (Sd_set hS ha.1 rfl rfl ?_ (fun b hb => ce_sR b hb) hP1 hS1) hl
  rw [ce_16 (M := sR M a (va_up (mR M a) i.toNatClampNeg none)) ha.2]
  refine congrArg (fun f => Sum.inl (gA g 3, mN M a, Sum.inr (Sum.inr (Sum.inr (Sum.inr f))))) ?_
  funext j
  show (rw1 (mR M) a (va_up (mR M a) i.toNatClampNeg none) a j).map _ = _
  rw [rw1_s]
  unfold va_up
  by_cases hj : j = i.toNatClampNeg
  · simp [hj]
  · simp [hj]
/-- a method by its frame -/
theorem cl_of {ν : MD} {av : List Value} (hy : plainName ν.1.cls = true) (hlen : (lg_sl av).length ≤ ν.2.2.1) (hlv : lv_args 0 av = lv) (k : Fr g d ν 0 lv [] M r M') : Cl g d ν av M r M' := by
  refine ⟨k.1, Met.ofW (cc := ν.2.1) (maxL := ν.2.2.1) (ret := ν.2.2.2) hy rfl ?_⟩
  intro p e s m args below meth c s₁ B hml hv
  obtain ⟨rfl, h1, h2, h3, h4⟩ := hv
  have hts := atoms_spec (ws := wsM ν) B.pre
  have hown : s.vm.findClass ν.1.cls = some m.cls := findClass_of_methodNamed B.named
  have hin : meth.name = ν.1.name := (name_of_methodNamed B.named B.method).1
  have hl := lv_entry av (n := ν.2.2.1) hlen
  rw [hlv] at hl
  rw [lg_entry_eq]
  have k1 := k.1.1
  have k2 := k.1.2.1
  exact k.2 p e s m av.toArray below meth c _ (mx M) (ms M) s.heap [] 0 0 _ ⟨B.exec, B.bytes, hml, hown, fun w hw => hts w (List.mem_cons_of_mem _ hw), B.returns, B.notSynchronized, hin, Nat.le_refl _, Nat.le_refl _, Nat.sub_add_cancel k1, Nat.sub_add_cancel k2, h1, h3, h4⟩ ⟨Nat.zero_add _, Nat.zero_add _, h2, va_S.rf⟩ hl
end FC
