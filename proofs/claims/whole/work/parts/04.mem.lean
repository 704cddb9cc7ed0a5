/-! the memory of a run, and what a method does to it: over the kit's rows -/
abbrev GE : Type := Launch × va_G × (Nat → ClassId) × Nat × (Nat → Nat) × (Nat → Nat)
def gl (g : GE) : Launch := g.1
def gD (g : GE) : va_G := g.2.1
def gA (g : GE) (k : Nat) : ClassId := g.2.2.1 k
def gb (g : GE) : Nat := g.2.2.2.1
def gK (g : GE) : Nat → Nat := g.2.2.2.2.1
def gV (g : GE) : Nat → Nat := g.2.2.2.2.2
/-- kinds of the cells, references, lengths, the next place, the slots in use -/
abbrev Zs : Type := (Nat → Nat) × (Nat → Nat → Option Nat) × (Nat → Nat) × Nat × Nat
abbrev Mem : Type := Zs × (Nat → Nat → Int32) × (Nat → Nat → Int64)
abbrev mT (M : Mem) : Nat → Nat := M.1.1
abbrev mR (M : Mem) : Nat → Nat → Option Nat := M.1.2.1
abbrev mN (M : Mem) : Nat → Nat := M.1.2.2.1
abbrev mx (M : Mem) : Nat := M.1.2.2.2.1
abbrev ms (M : Mem) : Nat := M.1.2.2.2.2
abbrev mI (M : Mem) : Nat → Nat → Int32 := M.2.1
abbrev mL (M : Mem) : Nat → Nat → Int64 := M.2.2
def rw1 {α : Type} (f : Nat → α) (a : Nat) (v : α) : Nat → α := fun x => if x = a then v else f x
theorem rw1_s {α : Type} (f : Nat → α) (a : Nat) (v : α) : rw1 f a v a = v := if_pos rfl
theorem rw1_n {α : Type} (f : Nat → α) {a b : Nat} (v : α) (h : b ≠ a) : rw1 f a v b = f b := if_neg h
abbrev sI (M : Mem) (a : Nat) (f : Nat → Int32) : Mem := (M.1, rw1 (mI M) a f, mL M)
abbrev sL (M : Mem) (a : Nat) (f : Nat → Int64) : Mem := (M.1, mI M, rw1 (mL M) a f)
abbrev sR (M : Mem) (a : Nat) (f : Nat → Option Nat) : Mem := ((mT M, rw1 (mR M) a f, mN M, mx M, ms M), mI M, mL M)
abbrev nw (M : Mem) (t n : Nat) : Mem := ((rw1 (mT M) (mx M) t, rw1 (mR M) (mx M) (fun _ => none), rw1 (mN M) (mx M) n, mx M + 1, ms M + n), rw1 (mI M) (mx M) (fun _ => 0), rw1 (mL M) (mx M) (fun _ => 0))
def rv (g : GE) (o : Option Nat) : Value := va_rf (o.map (fun a => gb g + a))
abbrev rf (g : GE) (a : Nat) : Value := .ref (gb g + a)
theorem rv_some (g : GE) (a : Nat) : rv g (some a) = rf g a := rfl
theorem rv_none (g : GE) : rv g none = .null := rfl
/-- the kinds of the fields: 0 a number, 1 a long, 2 a reference -/
def kd : Nat → List Nat := fun t => match t with
  | 0 => [2, 2, 0, 0, 2, 2, 0, 2, 2, 2, 2]
  | 1 => [2, 2, 2, 0]
  | 2 => [2, 0]
  | 3 => [2, 2, 2]
  | 4 => [2, 2, 0]
  | 5 => [2, 2, 2, 0, 0, 0, 0, 0, 0, 0]
  | 6 => [2, 0, 0, 0]
  | 7 => [2, 2, 2, 2, 2, 2, 0, 0]
  | 8 => [0, 0, 2, 2, 2, 2, 2, 2, 2, 2, 2, 2, 2, 2, 0]
  | 9 => [2, 2, 2]
  | 10 => [2, 2, 2, 2, 2, 2, 2, 0, 0]
  | 11 => [2, 2, 2, 2, 2, 2, 2, 2, 2, 2, 0, 0, 2, 2]
  | 12 => [2, 2, 0, 0, 2, 2, 0, 0, 0, 0, 0, 0, 0, 1, 0, 0, 0, 0, 2, 0, 0, 0, 0, 0, 2, 2, 2, 2, 2, 2, 2, 2, 2, 2, 0, 0, 2, 2, 2, 2, 2, 2, 2]
  | _ => []
def fv (g : GE) (M : Mem) (a k : Nat) (kind : Nat) : Value := match kind with
  | 0 => .int (mI M a k)
  | 1 => .long (mL M a k)
  | _ => rv g (mR M a k)
def fs (g : GE) (M : Mem) (a t : Nat) : List Value := (kd t).mapIdx (fun k kind => fv g M a k kind)
/-- the kinds of arrays: 13 int, 14 long, 15 boolean, 16 Script -/
def ce (g : GE) (M : Mem) (a : Nat) : va_E := if mT M a = 13 then .inl (gA g 0, mN M a, .inl (mI M a)) else if mT M a = 14 then .inl (gA g 1, mN M a, .inr (.inl (mL M a))) else if mT M a = 15 then .inl (gA g 2, mN M a, .inl (mI M a)) else if mT M a = 16 then .inl (gA g 3, mN M a, .inr (.inr (.inr (.inr (fun i => (mR M a i).map (fun b => gb g + b)))))) else .inr (mT M a, fs g M a (mT M a))
def wsO (g : GE) (M : Mem) : va_W := (List.range (mx M)).map (fun a => (gb g + a, ce g M a))
def tyL (g : GE) : List (ClassId × FieldType) := [(gA g 0, .int), (gA g 1, .long), (gA g 2, .boolean), (gA g 3, .object RX6)]
def AA (g : GE) : Nat → Prop := fun q => gb g ≤ q
def KM (Z : Zs) (a t : Nat) : Prop := a < Z.2.2.2.1 ∧ Z.1 a = t
def Ext (M M' : Mem) : Prop := mx M ≤ mx M' ∧ ms M ≤ ms M' ∧ ∀ a, a < mx M → mT M' a = mT M a ∧ mN M' a = mN M a
theorem Ext.rf (M : Mem) : Ext M M := ⟨Nat.le_refl _, Nat.le_refl _, fun _ _ => ⟨rfl, rfl⟩⟩
theorem Ext.tr {M M1 M2 : Mem} (h : Ext M M1) (k : Ext M1 M2) : Ext M M2 := ⟨Nat.le_trans h.1 k.1, Nat.le_trans h.2.1 k.2.1, fun a ha => by
  obtain ⟨h1, h2⟩ := h.2.2 a ha
  obtain ⟨k1, k2⟩ := k.2.2 a (Nat.lt_of_lt_of_le ha h.1)
  exact ⟨k1.trans h1, k2.trans h2⟩⟩
theorem Ext.nw (M : Mem) (t n : Nat) : Ext M (nw M t n) := ⟨Nat.le_succ _, Nat.le_add_right _ _, fun a ha => ⟨rw1_n _ _ (Nat.ne_of_lt ha), rw1_n _ _ (Nat.ne_of_lt ha)⟩⟩
theorem KM.ext {M M' : Mem} {a t : Nat} (h : KM M.1 a t) (k : Ext M M') : KM M'.1 a t := ⟨Nat.lt_of_lt_of_le h.1 k.1, ((k.2.2 a h.1).1).trans h.2⟩
theorem wsO_get {g : GE} {M : Mem} {a : Nat} (h : a < mx M) : (wsO g M)[a]? = some (gb g + a, ce g M a) := by
  unfold wsO
  rw [List.getElem?_map, List.getElem?_range h]
  rfl
theorem wsO_inv {g : GE} {M : Mem} {k : Nat} {q : Nat × va_E} (h : (wsO g M)[k]? = some q) : k < mx M ∧ q = (gb g + k, ce g M k) := by
  have hl : k < (wsO g M).length := (List.getElem?_eq_some_iff.mp h).1
  have hk : k < mx M := by unfold wsO at hl; rw [List.length_map, List.length_range] at hl; exact hl
  rw [wsO_get hk] at h
  exact ⟨hk, (Option.some.inj h).symm⟩
theorem wsO_D (g : GE) (M : Mem) : va_D (AA g) (wsO g M) := by
  refine ⟨fun i j p q hi hj he => ?_, fun k q hk => ?_⟩
  · obtain ⟨-, rfl⟩ := wsO_inv hi
    obtain ⟨-, rfl⟩ := wsO_inv hj
    exact Nat.add_left_cancel he
  · obtain ⟨-, rfl⟩ := wsO_inv hk
    exact Nat.le_add_right _ _
theorem wsO_set {g : GE} {M M1 : Mem} {a : Nat} (h : a < mx M) (hx : mx M1 = mx M) (hc : ∀ b, b ≠ a → ce g M1 b = ce g M b) : (wsO g M).set a (gb g + a, ce g M1 a) = wsO g M1 := by
  apply List.ext_getElem?
  intro i
  by_cases hi : i < mx M
  · rw [wsO_get (M := M1) (by rw [hx]; exact hi)]
    by_cases ha : a = i
    · subst ha
      rw [List.getElem?_set_self (by unfold wsO; simp; exact h)]
    · rw [List.getElem?_set_ne ha, wsO_get hi, hc i (fun e => ha e.symm)]
  · rw [List.getElem?_eq_none (by unfold wsO; simp; omega), List.getElem?_eq_none (by unfold wsO; simp; omega)]
theorem wsO_push {g : GE} {M : Mem} {t n : Nat} {e : va_E} (he : ce g (nw M t n) (mx M) = e) (hc : ∀ b, b ≠ mx M → ce g (nw M t n) b = ce g M b) : wsO g M ++ [(gb g + mx M, e)] = wsO g (nw M t n) := by
  unfold wsO
  show _ = (List.range (mx M + 1)).map _
  rw [List.range_succ, List.map_append]
  congr 1
  · apply List.map_congr_left
    intro a ha
    rw [hc a (Nat.ne_of_lt (List.mem_range.mp ha))]
  · simp [he]
theorem ce_13 {g : GE} {M : Mem} {a : Nat} (h : mT M a = 13) : ce g M a = .inl (gA g 0, mN M a, .inl (mI M a)) := by unfold ce; rw [if_pos h]
theorem ce_14 {g : GE} {M : Mem} {a : Nat} (h : mT M a = 14) : ce g M a = .inl (gA g 1, mN M a, .inr (.inl (mL M a))) := by unfold ce; rw [if_neg (by omega), if_pos h]
theorem ce_15 {g : GE} {M : Mem} {a : Nat} (h : mT M a = 15) : ce g M a = .inl (gA g 2, mN M a, .inl (mI M a)) := by unfold ce; rw [if_neg (by omega), if_neg (by omega), if_pos h]
theorem ce_16 {g : GE} {M : Mem} {a : Nat} (h : mT M a = 16) : ce g M a = .inl (gA g 3, mN M a, .inr (.inr (.inr (.inr (fun i => (mR M a i).map (fun b => gb g + b)))))) := by unfold ce; rw [if_neg (by omega), if_neg (by omega), if_neg (by omega), if_pos h]
theorem ce_o {g : GE} {M : Mem} {a t : Nat} (h : mT M a = t) (ht : t < 13) : ce g M a = .inr (t, fs g M a t) := by
  subst h
  unfold ce; rw [if_neg (by omega), if_neg (by omega), if_neg (by omega), if_neg (by omega)]
theorem fv_sI {g : GE} {M : Mem} {a b k kind : Nat} {f : Nat → Int32} (h : b ≠ a) : fv g (sI M a f) b k kind = fv g M b k kind := by
  unfold fv
  match kind with
  | 0 => show Value.int (rw1 (mI M) a f b k) = _; rw [rw1_n _ _ h]; rfl
  | 1 => rfl
  | _ + 2 => rfl
theorem ce_sI {g : GE} {M : Mem} {a : Nat} {f : Nat → Int32} (b : Nat) (h : b ≠ a) : ce g (sI M a f) b = ce g M b := by
  unfold ce fs
  simp only [fv_sI h]
  show (if mT M b = 13 then Sum.inl (gA g 0, mN M b, Sum.inl (rw1 (mI M) a f b)) else if mT M b = 14 then _ else if mT M b = 15 then Sum.inl (gA g 2, mN M b, Sum.inl (rw1 (mI M) a f b)) else _) = _
  rw [rw1_n _ _ h]
theorem fv_sL {g : GE} {M : Mem} {a b k kind : Nat} {f : Nat → Int64} (h : b ≠ a) : fv g (sL M a f) b k kind = fv g M b k kind := by
  unfold fv
  match kind with
  | 0 => rfl
  | 1 => show Value.long (rw1 (mL M) a f b k) = _; rw [rw1_n _ _ h]; rfl
  | _ + 2 => rfl
theorem ce_sL {g : GE} {M : Mem} {a : Nat} {f : Nat → Int64} (b : Nat) (h : b ≠ a) : ce g (sL M a f) b = ce g M b := by
  unfold ce fs
  simp only [fv_sL h]
  show (if mT M b = 13 then _ else if mT M b = 14 then Sum.inl (gA g 1, mN M b, Sum.inr (Sum.inl (rw1 (mL M) a f b))) else _) = _
  rw [rw1_n _ _ h]
theorem fv_sR {g : GE} {M : Mem} {a b k kind : Nat} {f : Nat → Option Nat} (h : b ≠ a) : fv g (sR M a f) b k kind = fv g M b k kind := by
  unfold fv
  match kind with
  | 0 => rfl
  | 1 => rfl
  | _ + 2 => show rv g (rw1 (mR M) a f b k) = _; rw [rw1_n _ _ h]; rfl
theorem ce_sR {g : GE} {M : Mem} {a : Nat} {f : Nat → Option Nat} (b : Nat) (h : b ≠ a) : ce g (sR M a f) b = ce g M b := by
  unfold ce fs
  simp only [fv_sR h]
  show (if mT M b = 13 then _ else if mT M b = 14 then _ else if mT M b = 15 then _ else if mT M b = 16 then Sum.inl (gA g 3, mN M b, Sum.inr (Sum.inr (Sum.inr (Sum.inr (fun i => (rw1 (mR M) a f b i).map (fun b => gb g + b)))))) else _) = _
  rw [rw1_n _ _ h]
theorem fv_nw {g : GE} {M : Mem} {b k kind t n : Nat} (h : b ≠ mx M) : fv g (nw M t n) b k kind = fv g M b k kind := by
  unfold fv
  match kind with
  | 0 => show Value.int (rw1 (mI M) _ _ b k) = _; rw [rw1_n _ _ h]; rfl
  | 1 => show Value.long (rw1 (mL M) _ _ b k) = _; rw [rw1_n _ _ h]; rfl
  | _ + 2 => show rv g (rw1 (mR M) _ _ b k) = _; rw [rw1_n _ _ h]; rfl
theorem ce_nw {g : GE} {M : Mem} {t n : Nat} (b : Nat) (h : b ≠ mx M) : ce g (nw M t n) b = ce g M b := by
  unfold ce fs
  simp only [fv_nw h]
  rw [show mT (nw M t n) b = mT M b from rw1_n _ _ h, show mN (nw M t n) b = mN M b from rw1_n _ _ h, show mI (nw M t n) b = mI M b from rw1_n _ _ h, show mL (nw M t n) b = mL M b from rw1_n _ _ h, show mR (nw M t n) b = mR M b from rw1_n _ _ h]
theorem fs_len (g : GE) (M : Mem) (a t : Nat) : (fs g M a t).length = (kd t).length := by unfold fs; rw [List.length_mapIdx]
theorem fs_at {g : GE} {M : Mem} {a t k kind : Nat} (h : (kd t)[k]? = some kind) : (fs g M a t)[k]? = some (fv g M a k kind) := by
  unfold fs
  rw [List.getElem?_mapIdx, h]
  rfl
theorem fs_put {g : GE} {M M1 : Mem} {a t k kind : Nat} {v : Value} (h : (kd t)[k]? = some kind) (hv : fv g M1 a k kind = v) (ho : ∀ j kj, j ≠ k → fv g M1 a j kj = fv g M a j kj) : fs g M1 a t = (fs g M a t).set k v := by
  apply List.ext_getElem?
  intro i
  by_cases hi : k = i
  · subst hi
    rw [List.getElem?_set_self (by rw [fs_len]; exact (List.getElem?_eq_some_iff.mp h).1), fs_at h, hv]
  · rw [List.getElem?_set_ne hi]
    unfold fs
    rw [List.getElem?_mapIdx, List.getElem?_mapIdx]
    cases (kd t)[i]? with
    | none => rfl
    | some q => exact congrArg some (ho i q (fun e => hi e.symm))
theorem ce_putI {g : GE} {M : Mem} {a t k : Nat} {v : Int32} (ht : mT M a = t) (hl : t < 13) (h : (kd t)[k]? = some 0) : ce g (sI M a (upd (mI M a) k v)) a = .inr (t, (fs g M a t).set k (.int v)) := by
  rw [ce_o (M := sI M a (upd (mI M a) k v)) (t := t) ht hl]
  rw [fs_put (M := M) (k := k) (v := .int v) h (by show Value.int (rw1 (mI M) a _ a k) = _; rw [rw1_s]; simp [upd]) (fun j kj hj => by
    unfold fv
    match kj with
    | 0 => show Value.int (rw1 (mI M) a _ a j) = _; rw [rw1_s]; simp [upd, hj]
    | 1 => rfl
    | _ + 2 => rfl)]
theorem ce_putL {g : GE} {M : Mem} {a t k : Nat} {v : Int64} (ht : mT M a = t) (hl : t < 13) (h : (kd t)[k]? = some 1) : ce g (sL M a (vp_updL (mL M a) k v)) a = .inr (t, (fs g M a t).set k (.long v)) := by
  rw [ce_o (M := sL M a (vp_updL (mL M a) k v)) (t := t) ht hl]
  rw [fs_put (M := M) (k := k) (v := .long v) h (by show Value.long (rw1 (mL M) a _ a k) = _; rw [rw1_s]; simp [vp_updL]) (fun j kj hj => by
    unfold fv
    match kj with
    | 0 => rfl
    | 1 => show Value.long (rw1 (mL M) a _ a j) = _; rw [rw1_s]; simp [vp_updL, hj]
    | _ + 2 => rfl)]
theorem ce_putR {g : GE} {M : Mem} {a t k : Nat} {v : Option Nat} (ht : mT M a = t) (hl : t < 13) (h : (kd t)[k]? = some 2) : ce g (sR M a (va_up (mR M a) k v)) a = .inr (t, (fs g M a t).set k (rv g v)) := by
  rw [ce_o (M := sR M a (va_up (mR M a) k v)) (t := t) ht hl]
  rw [fs_put (M := M) (k := k) (v := rv g v) h (by show rv g (rw1 (mR M) a _ a k) = _; rw [rw1_s]; simp [va_up]) (fun j kj hj => by
    unfold fv
    match kj with
    | 0 => rfl
    | 1 => rfl
    | _ + 2 => show rv g (rw1 (mR M) a _ a j) = _; rw [rw1_s]; simp [va_up, hj])]
