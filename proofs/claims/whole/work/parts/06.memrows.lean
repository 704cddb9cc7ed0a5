/-- a link to a field: class ci, its place k, its kind -/
def FL (own : String) (idx ci k kind : Nat) : Prop := ∃ q : vw_C, vwCl[ci]? = some q ∧ (kd ci)[k]? = some kind ∧ Cond.fieldLink own idx (q.2.1 k).1 (q.2.1 k).2.1 (q.2.1 k).2.2.1 ∈ TB
/-- ... to be written: its type; whether it is final -/
def FP (own : String) (idx ci k kind : Nat) (ty : FieldType) (fin : Bool) : Prop := ∃ q : vw_C, vwCl[ci]? = some q ∧ (kd ci)[k]? = some kind ∧ Cond.fieldLink own idx (q.2.1 k).1 (q.2.1 k).2.1 (q.2.1 k).2.2.1 ∈ TB ∧ (q.2.1 k).2.2.2 = fin ∧ parseFieldDescriptor (q.2.1 k).2.2.1 = some ty ∧ (fin = true → (q.2.1 k).1 = own)
def NL (own : String) (idx ci nf : Nat) : Prop := ∃ q : vw_C, vwCl[ci]? = some q ∧ q.2.2 = nf ∧ Cond.classLink own idx q.1 ∈ TB ∧ Cond.instantiable q.1 q.2.2 ∈ TB ∧ Cond.initialized q.1 ∈ TB
section FM
variable {g : GE} {d : Nat} {μ : MD} {pc n tgt : Nat} {lv lv' : List (Nat × Value)} {st st' stk : List Value} {M M1 M' : Mem} {r : Option Value}
theorem fr_get {a ci k kind idx : Nat} (hd : decode μ.2.1 pc = .ok (.getfield idx, 3)) (hn : pc + 3 = n) (hF : FL μ.1.cls idx ci k kind) (ha : KM M.1 a ci) (kk : Fr g d μ n lv (fv g M a k kind :: st) M r M') : Fr g d μ pc lv (rf g a :: st) M r M' := by
  subst hn
  refine ⟨kk.1, fun p e s m args below meth c R x0 s0 H locs cells slots ls hC hS hl => ?_⟩
  obtain ⟨q, hq, hk, hw⟩ := hF
  obtain ⟨hlt, c1, c2, c3, ty, c4, c5⟩ := cls_ok hq
  have hkN : k < q.2.2 := by rw [← c2]; exact (List.getElem?_eq_some_iff.mp hk).1
  refine va_get (C := q.1) (T := q.2.1) (N := q.2.2) (ref := (q.2.1 k).1) hC.1 hC.2.1 hC.2.2.2.2.1 c1 hC.2.2.2.1 hC.2.2.2.2.2.2.2.2.2.2.2.2.2.1 hS.2.2.1 a (fs := fs g M a ci) (by rw [wsO_get ha.1, ce_o ha.2 hlt]) hq k hkN (hC.2.2.2.2.1 _ hw) (fun _ h => h) (fs_at hk) hd ?_
  exact kk.2 p e s m args below meth c R x0 s0 H locs cells slots ls hC hS hl
theorem fr_getI {a ci k idx : Nat} (hd : decode μ.2.1 pc = .ok (.getfield idx, 3)) (hn : pc + 3 = n) (hF : FL μ.1.cls idx ci k 0) (ha : KM M.1 a ci) (kk : Fr g d μ n lv (.int (mI M a k) :: st) M r M') : Fr g d μ pc lv (rf g a :: st) M r M' := fr_get hd hn hF ha kk
theorem fr_getL {a ci k idx : Nat} (hd : decode μ.2.1 pc = .ok (.getfield idx, 3)) (hn : pc + 3 = n) (hF : FL μ.1.cls idx ci k 1) (ha : KM M.1 a ci) (kk : Fr g d μ n lv (.long (mL M a k) :: st) M r M') : Fr g d μ pc lv (rf g a :: st) M r M' := fr_get hd hn hF ha kk
theorem fr_getR {a b ci k idx : Nat} (hd : decode μ.2.1 pc = .ok (.getfield idx, 3)) (hn : pc + 3 = n) (hF : FL μ.1.cls idx ci k 2) (ha : KM M.1 a ci) (hb : mR M a k = some b) (kk : Fr g d μ n lv (rf g b :: st) M r M') : Fr g d μ pc lv (rf g a :: st) M r M' := fr_get hd hn hF ha (by show Fr g d μ n lv (rv g (mR M a k) :: st) M r M'; rw [hb]; exact kk)
theorem fr_getQ {a ci k idx : Nat} (hd : decode μ.2.1 pc = .ok (.getfield idx, 3)) (hn : pc + 3 = n) (hF : FL μ.1.cls idx ci k 2) (ha : KM M.1 a ci) (kk : Fr g d μ n lv (rv g (mR M a k) :: st) M r M') : Fr g d μ pc lv (rf g a :: st) M r M' := fr_get hd hn hF ha kk
/-- what a write leaves of the frame's facts -/
theorem Sd_set {H1 : Heap} {s : State} {locs locs1 : List Loc} {x0 s0 cells slots a : Nat} {E : va_E} {H : Heap} (hS : Sd g M H s locs x0 s0 cells slots) (ha : a < mx M) (h1 : mx M1 = mx M) (h2 : ms M1 = ms M) (he : ce g M1 a = E) (hc : ∀ b, b ≠ a → ce g M1 b = ce g M b)
    (hP : va_P (gD g) vwCl ((wsO g M).set a (gb g + a, E)) H1) (hS1 : va_S (AA g) s.heap H1 locs1) : Sd g M1 H1 s locs1 x0 s0 cells slots := by
  refine ⟨by rw [h1]; exact hS.1, by rw [h2]; exact hS.2.1, ?_, hS1⟩
  rw [← wsO_set ha h1 hc, he]
  exact hP
theorem fr_put {a ci k kind idx : Nat} {v : Value} {ty : FieldType} (hd : decode μ.2.1 pc = .ok (.putfield idx, 3)) (hn : pc + 3 = n) (hF : FP μ.1.cls idx ci k kind ty false) (ha : KM M.1 a ci) (h1 : mx M1 = mx M) (h2 : ms M1 = ms M) (he : ce g M1 a = .inr (ci, (fs g M a ci).set k v)) (hc : ∀ b, b ≠ a → ce g M1 b = ce g M b) (hE : Ext M M1) (hnr : narrow ty v = v) (hft : fits ty v = true) (kk : Fr g d μ n lv st M1 r M') : Fr g d μ pc lv (v :: rf g a :: st) M r M' := by
  subst hn
  refine ⟨hE.tr kk.1, fun p e s m args below meth c R x0 s0 H locs cells slots ls hC hS hl => ?_⟩
  obtain ⟨q, hq, hk, hw, hfin, hty, -⟩ := hF
  obtain ⟨hlt, c1, c2, c3, ty0, c4, c5⟩ := cls_ok hq
  have hkN : k < q.2.2 := by rw [← c2]; exact (List.getElem?_eq_some_iff.mp hk).1
  refine va_put (C := q.1) (T := q.2.1) (N := q.2.2) (ref := (q.2.1 k).1) hC.1 hC.2.1 hC.2.2.2.2.1 c1 ty0 c4 c3 hC.2.2.2.1 hC.2.2.2.2.2.2.2.2.2.2.2.2.2.1 hS.2.2.1 (wsO_D g M) hS.2.2.2 a (fs := fs g M a ci) (by rw [wsO_get ha.1, ce_o ha.2 hlt]) hq k hkN (hC.2.2.2.2.1 _ hw) (fun _ h => h) hfin hty hnr hft (by rw [fs_len, c2]; exact hkN) hd (fun H1 locs1 hP1 hD1 hS1 => ?_)
  exact kk.2 p e s m args below meth c R x0 s0 H1 locs1 cells slots ls hC (Sd_set hS ha.1 h1 h2 he hc hP1 hS1) hl
theorem fr_putF {a ci k kind idx : Nat} {v : Value} {ty : FieldType} (hin : μ.1.name = "<init>") (hd : decode μ.2.1 pc = .ok (.putfield idx, 3)) (hn : pc + 3 = n) (hF : FP μ.1.cls idx ci k kind ty true) (ha : KM M.1 a ci) (h1 : mx M1 = mx M) (h2 : ms M1 = ms M) (he : ce g M1 a = .inr (ci, (fs g M a ci).set k v)) (hc : ∀ b, b ≠ a → ce g M1 b = ce g M b) (hE : Ext M M1) (hnr : narrow ty v = v) (hft : fits ty v = true) (kk : Fr g d μ n lv st M1 r M') : Fr g d μ pc lv (v :: rf g a :: st) M r M' := by
  subst hn
  refine ⟨hE.tr kk.1, fun p e s m args below meth c R x0 s0 H locs cells slots ls hC hS hl => ?_⟩
  obtain ⟨q, hq, hk, hw, hfin, hty, hdecl⟩ := hF
  obtain ⟨hlt, c1, c2, c3, ty0, c4, c5⟩ := cls_ok hq
  have hkN : k < q.2.2 := by rw [← c2]; exact (List.getElem?_eq_some_iff.mp hk).1
  refine va_putF (C := q.1) (T := q.2.1) (N := q.2.2) (ref := (q.2.1 k).1) hC.1 hC.2.1 hC.2.2.2.2.1 c1 ty0 c4 c3 hC.2.2.2.1 hC.2.2.2.2.2.2.2.2.2.2.2.2.2.1 hS.2.2.1 (wsO_D g M) hS.2.2.2 a (fs := fs g M a ci) (by rw [wsO_get ha.1, ce_o ha.2 hlt]) hq k hkN (hC.2.2.2.2.1 _ hw) (fun _ h => h) hfin (by rw [hC.2.2.2.2.2.2.2.1]; exact hin) (hdecl rfl) hty hnr hft (by rw [fs_len, c2]; exact hkN) hd (fun H1 locs1 hP1 hD1 hS1 => ?_)
  exact kk.2 p e s m args below meth c R x0 s0 H1 locs1 cells slots ls hC (Sd_set hS ha.1 h1 h2 he hc hP1 hS1) hl
theorem FP.lt {own : String} {idx ci k kind : Nat} {ty : FieldType} {fin : Bool} (h : FP own idx ci k kind ty fin) : ci < 13 ∧ (kd ci)[k]? = some kind := by
  obtain ⟨q, hq, hk, -⟩ := h
  exact ⟨(cls_ok hq).1, hk⟩
theorem Ext.sI (M : Mem) (a : Nat) (f : Nat → Int32) : Ext M (sI M a f) := ⟨Nat.le_refl _, Nat.le_refl _, fun _ _ => ⟨rfl, rfl⟩⟩
theorem Ext.sL (M : Mem) (a : Nat) (f : Nat → Int64) : Ext M (sL M a f) := ⟨Nat.le_refl _, Nat.le_refl _, fun _ _ => ⟨rfl, rfl⟩⟩
theorem Ext.sR (M : Mem) (a : Nat) (f : Nat → Option Nat) : Ext M (sR M a f) := ⟨Nat.le_refl _, Nat.le_refl _, fun _ _ => ⟨rfl, rfl⟩⟩
theorem fr_putI {a ci k idx : Nat} {v : Int32} (hd : decode μ.2.1 pc = .ok (.putfield idx, 3)) (hn : pc + 3 = n) (hF : FP μ.1.cls idx ci k 0 .int false) (ha : KM M.1 a ci) (kk : Fr g d μ n lv st (sI M a (upd (mI M a) k v)) r M') : Fr g d μ pc lv (.int v :: rf g a :: st) M r M' :=
  fr_put (M1 := sI M a (upd (mI M a) k v)) hd hn hF ha rfl rfl (ce_putI ha.2 hF.lt.1 hF.lt.2) (fun b hb => ce_sI b hb) (Ext.sI _ _ _) rfl rfl kk
theorem fr_putZ {a ci k idx : Nat} {v : Int32} (hv : v = 0 ∨ v = 1) (hd : decode μ.2.1 pc = .ok (.putfield idx, 3)) (hn : pc + 3 = n) (hF : FP μ.1.cls idx ci k 0 .boolean false) (ha : KM M.1 a ci) (kk : Fr g d μ n lv st (sI M a (upd (mI M a) k v)) r M') : Fr g d μ pc lv (.int v :: rf g a :: st) M r M' :=
  fr_put (M1 := sI M a (upd (mI M a) k v)) hd hn hF ha rfl rfl (ce_putI ha.2 hF.lt.1 hF.lt.2) (fun b hb => ce_sI b hb) (Ext.sI _ _ _) (by rcases hv with rfl | rfl <;> rfl) (by rcases hv with rfl | rfl <;> rfl) kk
theorem fr_putL {a ci k idx : Nat} {v : Int64} (hd : decode μ.2.1 pc = .ok (.putfield idx, 3)) (hn : pc + 3 = n) (hF : FP μ.1.cls idx ci k 1 .long false) (ha : KM M.1 a ci) (kk : Fr g d μ n lv st (sL M a (vp_updL (mL M a) k v)) r M') : Fr g d μ pc lv (.long v :: rf g a :: st) M r M' :=
  fr_put (M1 := sL M a (vp_updL (mL M a) k v)) hd hn hF ha rfl rfl (ce_putL ha.2 hF.lt.1 hF.lt.2) (fun b hb => ce_sL b hb) (Ext.sL _ _ _) rfl rfl kk
theorem fr_putR {a b ci k idx : Nat} {C : String} (hd : decode μ.2.1 pc = .ok (.putfield idx, 3)) (hn : pc + 3 = n) (hF : FP μ.1.cls idx ci k 2 (.object C) false) (ha : KM M.1 a ci) (kk : Fr g d μ n lv st (sR M a (va_up (mR M a) k (some b))) r M') : Fr g d μ pc lv (rf g b :: rf g a :: st) M r M' :=
  fr_put (M1 := sR M a (va_up (mR M a) k (some b))) hd hn hF ha rfl rfl (ce_putR ha.2 hF.lt.1 hF.lt.2) (fun b hb => ce_sR b hb) (Ext.sR _ _ _) rfl rfl kk
theorem fr_putFI {a ci k idx : Nat} {v : Int32} (hin : μ.1.name = "<init>") (hd : decode μ.2.1 pc = .ok (.putfield idx, 3)) (hn : pc + 3 = n) (hF : FP μ.1.cls idx ci k 0 .int true) (ha : KM M.1 a ci) (kk : Fr g d μ n lv st (sI M a (upd (mI M a) k v)) r M') : Fr g d μ pc lv (.int v :: rf g a :: st) M r M' :=
  fr_putF (M1 := sI M a (upd (mI M a) k v)) hin hd hn hF ha rfl rfl (ce_putI ha.2 hF.lt.1 hF.lt.2) (fun b hb => ce_sI b hb) (Ext.sI _ _ _) rfl rfl kk
theorem fr_putFR {a b ci k idx : Nat} {C : String} (hin : μ.1.name = "<init>") (hd : decode μ.2.1 pc = .ok (.putfield idx, 3)) (hn : pc + 3 = n) (hF : FP μ.1.cls idx ci k 2 (.object C) true) (ha : KM M.1 a ci) (kk : Fr g d μ n lv st (sR M a (va_up (mR M a) k (some b))) r M') : Fr g d μ pc lv (rf g b :: rf g a :: st) M r M' :=
  fr_putF (M1 := sR M a (va_up (mR M a) k (some b))) hin hd hn hF ha rfl rfl (ce_putR ha.2 hF.lt.1 hF.lt.2) (fun b hb => ce_sR b hb) (Ext.sR _ _ _) rfl rfl kk
theorem fr_putFA {a b ci k idx : Nat} {C : FieldType} (hin : μ.1.name = "<init>") (hd : decode μ.2.1 pc = .ok (.putfield idx, 3)) (hn : pc + 3 = n) (hF : FP μ.1.cls idx ci k 2 (.array C) true) (ha : KM M.1 a ci) (kk : Fr g d μ n lv st (sR M a (va_up (mR M a) k (some b))) r M') : Fr g d μ pc lv (rf g b :: rf g a :: st) M r M' :=
  fr_putF (M1 := sR M a (va_up (mR M a) k (some b))) hin hd hn hF ha rfl rfl (ce_putR ha.2 hF.lt.1 hF.lt.2) (fun b hb => ce_sR b hb) (Ext.sR _ _ _) rfl rfl kk

theorem fr_iald {a : Nat} {i : Int32} (hd : decode μ.2.1 pc = .ok (.iaload, 1)) (hn : pc + 1 = n) (ha : KM M.1 a 13) (hi : vp_in i (mN M a)) (kk : Fr g d μ n lv (.int (mI M a i.toNatClampNeg) :: st) M r M') : Fr g d μ pc lv (.int i :: rf g a :: st) M r M' := by
  subst hn
  refine ⟨kk.1, fun p e s m args below meth c R x0 s0 H locs cells slots ls hC hS hl => ?_⟩
  have hw : (wsO g M)[a]? = some (gb g + a, .inl (gA g 0, mN M a, .inl (mI M a))) := by rw [wsO_get ha.1, ce_13 ha.2]
  exact va_iald hC.1 hC.2.1 hC.2.2.2.2.2.2.2.2.2.2.2.2.2.1 hS.2.2.1 a 0 hw rfl hi hd (kk.2 p e s m args below meth c R x0 s0 H locs cells slots ls hC hS hl)
theorem fr_lald {a : Nat} {i : Int32} (hd : decode μ.2.1 pc = .ok (.laload, 1)) (hn : pc + 1 = n) (ha : KM M.1 a 14) (hi : vp_in i (mN M a)) (kk : Fr g d μ n lv (.long (mL M a i.toNatClampNeg) :: st) M r M') : Fr g d μ pc lv (.int i :: rf g a :: st) M r M' := by
  subst hn
  refine ⟨kk.1, fun p e s m args below meth c R x0 s0 H locs cells slots ls hC hS hl => ?_⟩
  have hw : (wsO g M)[a]? = some (gb g + a, .inl (gA g 1, mN M a, .inr (.inl (mL M a)))) := by rw [wsO_get ha.1, ce_14 ha.2]
  exact va_lald hC.1 hC.2.1 hC.2.2.2.2.2.2.2.2.2.2.2.2.2.1 hS.2.2.1 a 1 hw rfl hi hd (kk.2 p e s m args below meth c R x0 s0 H locs cells slots ls hC hS hl)
theorem fr_zald {a : Nat} {i : Int32} (hd : decode μ.2.1 pc = .ok (.baload, 1)) (hn : pc + 1 = n) (ha : KM M.1 a 15) (hi : vp_in i (mN M a)) (kk : Fr g d μ n lv (.int (mI M a i.toNatClampNeg) :: st) M r M') : Fr g d μ pc lv (.int i :: rf g a :: st) M r M' := by
  subst hn
  refine ⟨kk.1, fun p e s m args below meth c R x0 s0 H locs cells slots ls hC hS hl => ?_⟩
  have hw : (wsO g M)[a]? = some (gb g + a, .inl (gA g 2, mN M a, .inl (mI M a))) := by rw [wsO_get ha.1, ce_15 ha.2]
  exact va_zald hC.1 hC.2.1 hC.2.2.2.2.2.2.2.2.2.2.2.2.2.1 hS.2.2.1 a 2 hw rfl hi hd (kk.2 p e s m args below meth c R x0 s0 H locs cells slots ls hC hS hl)
theorem fr_aald {a : Nat} {i : Int32} (hd : decode μ.2.1 pc = .ok (.aaload, 1)) (hn : pc + 1 = n) (ha : KM M.1 a 16) (hi : vp_in i (mN M a)) (kk : Fr g d μ n lv (rv g (mR M a i.toNatClampNeg) :: st) M r M') : Fr g d μ pc lv (.int i :: rf g a :: st) M r M' := by
  subst hn
  refine ⟨kk.1, fun p e s m args below meth c R x0 s0 H locs cells slots ls hC hS hl => ?_⟩
  have hw : (wsO g M)[a]? = some (gb g + a, .inl (gA g 3, mN M a, .inr (.inr (.inr (.inr (fun i => (mR M a i).map (fun b => gb g + b))))))) := by rw [wsO_get ha.1, ce_16 ha.2]
  exact va_aldq hC.1 hC.2.1 hC.2.2.2.2.2.2.2.2.2.2.2.2.2.1 hS.2.2.1 a 3 hw rfl hi hd (kk.2 p e s m args below meth c R x0 s0 H locs cells slots ls hC hS hl)
theorem fr_iast {a : Nat} {i : Int32} {v : Int32} (hd : decode μ.2.1 pc = .ok (.iastore, 1)) (hn : pc + 1 = n) (ha : KM M.1 a 13) (hi : vp_in i (mN M a)) (kk : Fr g d μ n lv st (sI M a (upd (mI M a) i.toNatClampNeg v)) r M') : Fr g d μ pc lv (.int v :: .int i :: rf g a :: st) M r M' := by
  subst hn
  refine ⟨Ext.tr ⟨Nat.le_refl _, Nat.le_refl _, fun _ _ => ⟨rfl, rfl⟩⟩ kk.1, fun p e s m args below meth c R x0 s0 H locs cells slots ls hC hS hl => ?_⟩
  have hw : (wsO g M)[a]? = some (gb g + a, .inl (gA g 0, mN M a, .inl (mI M a))) := by rw [wsO_get ha.1, ce_13 ha.2]
  refine va_iast hC.1 hC.2.1 hC.2.2.2.2.2.2.2.2.2.2.2.2.2.1 hS.2.2.1 (wsO_D g M) hS.2.2.2 a 0 hw rfl hi hd (fun H1 locs1 hP1 hD1 hS1 => ?_)
  exact kk.2 p e s m args below meth c R x0 s0 H1 locs1 cells slots ls hC (Sd_set hS ha.1 rfl rfl (by rw [ce_13 (M := sI M a (upd (mI M a) i.toNatClampNeg v)) ha.2]; exact congrArg (fun f => Sum.inl (gA g 0, mN M a, Sum.inl f)) (rw1_s (mI M) a _)) (fun b hb => ce_sI b hb) hP1 hS1) hl
theorem fr_last {a : Nat} {i : Int32} {v : Int64} (hd : decode μ.2.1 pc = .ok (.lastore, 1)) (hn : pc + 1 = n) (ha : KM M.1 a 14) (hi : vp_in i (mN M a)) (kk : Fr g d μ n lv st (sL M a (vp_updL (mL M a) i.toNatClampNeg v)) r M') : Fr g d μ pc lv (.long v :: .int i :: rf g a :: st) M r M' := by
  subst hn
  refine ⟨Ext.tr ⟨Nat.le_refl _, Nat.le_refl _, fun _ _ => ⟨rfl, rfl⟩⟩ kk.1, fun p e s m args below meth c R x0 s0 H locs cells slots ls hC hS hl => ?_⟩
  have hw : (wsO g M)[a]? = some (gb g + a, .inl (gA g 1, mN M a, .inr (.inl (mL M a)))) := by rw [wsO_get ha.1, ce_14 ha.2]
  refine va_last hC.1 hC.2.1 hC.2.2.2.2.2.2.2.2.2.2.2.2.2.1 hS.2.2.1 (wsO_D g M) hS.2.2.2 a 1 hw rfl hi hd (fun H1 locs1 hP1 hD1 hS1 => ?_)
  exact kk.2 p e s m args below meth c R x0 s0 H1 locs1 cells slots ls hC (Sd_set hS ha.1 rfl rfl (by rw [ce_14 (M := sL M a (vp_updL (mL M a) i.toNatClampNeg v)) ha.2]; exact congrArg (fun f => Sum.inl (gA g 1, mN M a, Sum.inr (Sum.inl f))) (rw1_s (mL M) a _)) (fun b hb => ce_sL b hb) hP1 hS1) hl
theorem fr_zast {a : Nat} {i : Int32} {v : Int32} (hd : decode μ.2.1 pc = .ok (.bastore, 1)) (hn : pc + 1 = n) (ha : KM M.1 a 15) (hi : vp_in i (mN M a)) (kk : Fr g d μ n lv st (sI M a (upd (mI M a) i.toNatClampNeg (vp_nar .boolean v))) r M') : Fr g d μ pc lv (.int v :: .int i :: rf g a :: st) M r M' := by
  subst hn
  refine ⟨Ext.tr ⟨Nat.le_refl _, Nat.le_refl _, fun _ _ => ⟨rfl, rfl⟩⟩ kk.1, fun p e s m args below meth c R x0 s0 H locs cells slots ls hC hS hl => ?_⟩
  have hw : (wsO g M)[a]? = some (gb g + a, .inl (gA g 2, mN M a, .inl (mI M a))) := by rw [wsO_get ha.1, ce_15 ha.2]
  refine va_zast hC.1 hC.2.1 hC.2.2.2.2.2.2.2.2.2.2.2.2.2.1 hS.2.2.1 (wsO_D g M) hS.2.2.2 a 2 hw rfl hi hd (fun H1 locs1 hP1 hD1 hS1 => ?_)
  exact kk.2 p e s m args below meth c R x0 s0 H1 locs1 cells slots ls hC (Sd_set hS ha.1 rfl rfl (by rw [ce_15 (M := sI M a (upd (mI M a) i.toNatClampNeg (vp_nar .boolean v))) ha.2]; exact congrArg (fun f => Sum.inl (gA g 2, mN M a, Sum.inl f)) (rw1_s (mI M) a _)) (fun b hb => ce_sI b hb) hP1 hS1) hl
theorem fr_aast {a b : Nat} {i : Int32} (hd : decode μ.2.1 pc = .ok (.aastore, 1)) (hn : pc + 1 = n) (ha : KM M.1 a 16) (hb : KM M.1 b 6) (hi : vp_in i (mN M a)) (kk : Fr g d μ n lv st (sR M a (va_up (mR M a) i.toNatClampNeg (some b))) r M') : Fr g d μ pc lv (rf g b :: .int i :: rf g a :: st) M r M' := by
  subst hn
  refine ⟨Ext.tr ⟨Nat.le_refl _, Nat.le_refl _, fun _ _ => ⟨rfl, rfl⟩⟩ kk.1, fun p e s m args below meth c R x0 s0 H locs cells slots ls hC hS hl => ?_⟩
  have hw : (wsO g M)[a]? = some (gb g + a, .inl (gA g 3, mN M a, .inr (.inr (.inr (.inr (fun i => (mR M a i).map (fun b => gb g + b))))))) := by rw [wsO_get ha.1, ce_16 ha.2]
  have hv : (wsO g M)[b]? = some (gb g + b, .inr (6, fs g M b 6)) := by rw [wsO_get hb.1, ce_o hb.2 (by omega)]
  refine va_astq (r := (RX6, TX6, 4)) hC.1 hC.2.1 hC.2.2.2.2.2.2.2.2.2.2.2.2.2.1 hS.2.2.1 (wsO_D g M) hS.2.2.2 a 3 b 6 hw rfl hv rfl hi hd (fun H1 locs1 hP1 hD1 hS1 => ?_)
  refine kk.2 p e s m args below meth c R x0 s0 H1 locs1 cells slots ls hC (Sd_set hS ha.1 rfl rfl ?_ (fun b hb => ce_sR b hb) hP1 hS1) hl
  rw [ce_16 (M := sR M a (va_up (mR M a) i.toNatClampNeg (some b))) ha.2]
  refine congrArg (fun f => Sum.inl (gA g 3, mN M a, Sum.inr (Sum.inr (Sum.inr (Sum.inr f))))) ?_
  funext j
  show (rw1 (mR M) a (va_up (mR M a) i.toNatClampNeg (some b)) a j).map _ = _
  rw [rw1_s]
  unfold va_up
  by_cases hj : j = i.toNatClampNeg
  · simp [hj]
  · simp [hj]
theorem fr_alen {a : Nat} {t : Nat} (hd : decode μ.2.1 pc = .ok (.arraylength, 1)) (hn : pc + 1 = n) (ha : KM M.1 a t) (ht : t = 13 ∨ t = 14 ∨ t = 15 ∨ t = 16) (kk : Fr g d μ n lv (.int (nI (mN M a)) :: st) M r M') : Fr g d μ pc lv (rf g a :: st) M r M' := by
  subst hn
  refine ⟨kk.1, fun p e s m args below meth c R x0 s0 H locs cells slots ls hC hS hl => ?_⟩
  rcases ht with rfl | rfl | rfl | rfl
  · exact va_alen hC.1 hC.2.1 hC.2.2.2.2.2.2.2.2.2.2.2.2.2.1 hS.2.2.1 a 0 (show (wsO g M)[a]? = some (gb g + a, .inl (gA g 0, mN M a, .inl (mI M a))) by rw [wsO_get ha.1, ce_13 ha.2]) rfl rfl hd (kk.2 p e s m args below meth c R x0 s0 H locs cells slots ls hC hS hl)
  · exact va_alen hC.1 hC.2.1 hC.2.2.2.2.2.2.2.2.2.2.2.2.2.1 hS.2.2.1 a 1 (show (wsO g M)[a]? = some (gb g + a, .inl (gA g 1, mN M a, .inr (.inl (mL M a)))) by rw [wsO_get ha.1, ce_14 ha.2]) rfl rfl hd (kk.2 p e s m args below meth c R x0 s0 H locs cells slots ls hC hS hl)
  · exact va_alen hC.1 hC.2.1 hC.2.2.2.2.2.2.2.2.2.2.2.2.2.1 hS.2.2.1 a 2 (show (wsO g M)[a]? = some (gb g + a, .inl (gA g 2, mN M a, .inl (mI M a))) by rw [wsO_get ha.1, ce_15 ha.2]) rfl rfl hd (kk.2 p e s m args below meth c R x0 s0 H locs cells slots ls hC hS hl)
  · exact va_alen hC.1 hC.2.1 hC.2.2.2.2.2.2.2.2.2.2.2.2.2.1 hS.2.2.1 a 3 (show (wsO g M)[a]? = some (gb g + a, .inl (gA g 3, mN M a, .inr (.inr (.inr (.inr (fun i => (mR M a i).map (fun b => gb g + b))))))) by rw [wsO_get ha.1, ce_16 ha.2]) rfl rfl hd (kk.2 p e s m args below meth c R x0 s0 H locs cells slots ls hC hS hl)

end FM