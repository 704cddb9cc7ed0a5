/-! THE CLAIM OUT OF ONE WALK OF THE LAW'S BODY. Your part is whole_start (and what it stands on); all else here is the same for every law, but numbers. -/
/-! the room as the claim has it, by its own name: only these lower bounds of it are used -/
theorem rm_cells : 5000 ≤ room_1.cells := Nat.le_of_ble_eq_true rfl
theorem rm_slots : 1000000 ≤ room_1.slots := Nat.le_of_ble_eq_true rfl
theorem rm_frames : 512 ≤ room_1.frames := Nat.le_of_ble_eq_true rfl
theorem rm_locals : 32000 ≤ room_1.locals := Nat.le_of_ble_eq_true rfl
def R_law : String := "OneEyeTwoLegsLaw"
def lw_P (b : Addr) (xs : List Int32) (args : Array Value) (s : State) : Prop := args = #[.ref b] ∧ s.IntsAt b xs ∧ xs.length ≤ 3074 ∧ (Jvm.Cond.and given_1 narrow_1).before args s = true
def lw_Q (_ : Array Value) (s : State) (o : Outcome) (t : State) : Prop := o = .returned (some (.int 1)) ∧ Framed s o t [] room_1.cells room_1.slots
def lw_Z (below : List Frame) (a : Array Value) (s : State) : State → Prop := fun t => ∃ o, t.status = .running ∧ Ended t below o ∧ lw_Q a s o t
/-- the law's own end, with 1 on the stack, nothing written that was there before, its room as the claim has it -/
theorem lw_ret {p : Program} {l : Launch} {e : Env} {s : State} {m : MethodId} {below : List Frame} {meth : Method} {c : Code} {b : Nat} (hx : p.tables.exec = Jvm.exec) (hb : c.code = code) (hr : meth.sig.returnType = ret) (hlocks : meth.locks = false) {pc : Nat} {H : Heap} {ls : Array Slot} (hdg : decode code pc = .ok (.ireturn, 1)) : W p l e room_1 s m #[Value.ref b] below meth c H [] room_1.cells room_1.slots (lw_Z below #[Value.ref b] s) (F0 m pc ls [.int 1]) := by
  intro T hT X
  obtain ⟨fs, hret, hrun, hended, hW, hframe⟩ := X.leave (v := some (.int 1)) (hlocks := hlocks) (fun h => by rw [hr] at h; cases h)
  have hmeth' : T.vm.method? m = some meth := X.method'
  refine ⟨T.setFrames fs, ?_, .returned (some (.int 1)), hrun, hended, rfl, ⟨_, rfl⟩, hW, hframe⟩
  jvm_step X.here [X.here.top, hx, hb, hdg, hmeth', hr, ret, narrow_b1]
  (try refine ⟨rfl, ?_⟩); (try refine ⟨rfl, ?_⟩)
  first | (intro acts; rw [hret _ acts rfl rfl rfl]) | rw [hret _ _ rfl rfl rfl]
  exact Steps.refl _
/-- what holds at the law's entry: the machine, the code, the tables' words (any of lw_tbl by 'hts w (by decide +kernel)'), the script of L ints xs at the cell b, what the Statement gives of the start (any of its parts by flat_of_before) -/
def lw_At (p : Program) (s : State) (m : MethodId) (meth : Method) (c : Code) (b L : Nat) (xs : Nat → Int32) : Prop :=
  p.tables.exec = Jvm.exec ∧ c.code = code ∧ meth.sig.returnType = ret ∧ c.maxLocals = 4 ∧ s.vm.findClass R_law = some m.cls ∧ (∀ w ∈ lw_tbl, w.before #[Value.ref b] s = true) ∧ va_X b L xs s s.heap ∧ b < s.heap.size ∧ meth.locks = false ∧ (Jvm.Cond.and given_1 narrow_1).before #[Value.ref b] s = true
/-! the law's own frame -/
def LCw (g : GE) (p : Program) (s : State) (m : MethodId) (meth : Method) (c : Code) (b L : Nat) (xs : Nat → Int32) : Prop := p.tables.exec = Jvm.exec ∧ c.code = code ∧ c.maxLocals = 4 ∧ s.vm.findClass RL = some m.cls ∧ (∀ w ∈ TB, w.before #[Value.ref b] s = true) ∧ meth.sig.returnType = ret ∧ meth.locks = false ∧ va_X b L xs s s.heap ∧ b < s.heap.size ∧ s.heap.size = gb g ∧ va_K (gD g) vwCl (tyL g) s ∧ SK g s
def Lw (g : GE) (p : Program) (e : Env) (s : State) (m : MethodId) (below : List Frame) (meth : Method) (c : Code) (b : Nat) (pc : Nat) (lv : List (Nat × Value)) (st : List Value) (M : Mem) : Prop := ∀ (H : Heap) (locs : List Loc) (cells slots : Nat) (ls : Array Slot), Sd g M H s locs 0 0 cells slots → lv_has ls 4 lv → W p (gl g) e room_1 s m #[Value.ref b] below meth c H locs cells slots (lw_Z below #[Value.ref b] s) (F0 m pc ls st)
section LAWR
variable {g : GE} {p : Program} {e : Env} {s : State} {m : MethodId} {below : List Frame} {meth : Method} {c : Code} {b L : Nat} {xs : Nat → Int32} {pc n tgt : Nat} {lv lv' : List (Nat × Value)} {st st' stk : List Value} {M M1 : Mem}
theorem lw_low (C : LCw g p s m meth c b L xs) : ¬ AA g b := fun h => by
  have h1 : gb g ≤ b := h
  have h2 := C.2.2.2.2.2.2.2.2.1
  have h3 := C.2.2.2.2.2.2.2.2.2.1
  omega
theorem lw_iload_n (C : LCw g p s m meth c b L xs) {i : Fin 4} {q : Nat} {x : Int32} (h : lv[q]? = some ((i : Nat), .int x)) (hd : decode code pc = .ok (.iload_n i, 1)) (hn : pc + 1 = n) (k : Lw g p e s m below meth c b n lv (.int x :: st) M) : Lw g p e s m below meth c b pc lv st M := by
  subst hn
  exact fun H locs cells slots ls hS hl => lv_iload_n C.1 C.2.1 hd rfl (lv_at hl q h) (k H locs cells slots ls hS hl)
theorem lw_aload_n (C : LCw g p s m meth c b L xs) {i : Fin 4} {q : Nat} {x : Nat} (h : lv[q]? = some ((i : Nat), .ref x)) (hd : decode code pc = .ok (.aload_n i, 1)) (hn : pc + 1 = n) (k : Lw g p e s m below meth c b n lv (.ref x :: st) M) : Lw g p e s m below meth c b pc lv st M := by
  subst hn
  exact fun H locs cells slots ls hS hl => lv_aload_n C.1 C.2.1 hd rfl (lv_at hl q h) (k H locs cells slots ls hS hl)
theorem lw_iconst (C : LCw g p s m meth c b L xs) {z : Int} {v : Int32} (hv : Int32.ofInt z = v) (hd : decode code pc = .ok (.iconst z, 1)) (hn : pc + 1 = n) (k : Lw g p e s m below meth c b n lv (.int v :: st) M) : Lw g p e s m below meth c b pc lv st M := by
  subst hn
  exact fun H locs cells slots ls hS hl => lv_iconst C.1 C.2.1 hd hv (k H locs cells slots ls hS hl)
theorem lw_bipush (C : LCw g p s m meth c b L xs) {z : Int} {v : Int32} (hv : (Int8.ofInt z).toInt32 = v) (hd : decode code pc = .ok (.bipush z, 2)) (hn : pc + 2 = n) (k : Lw g p e s m below meth c b n lv (.int v :: st) M) : Lw g p e s m below meth c b pc lv st M := by
  subst hn
  exact fun H locs cells slots ls hS hl => lv_bipush C.1 C.2.1 hd hv (k H locs cells slots ls hS hl)
theorem lw_dup (C : LCw g p s m meth c b L xs) {v : Value} (h : v.category = 1) (hd : decode code pc = .ok (.dup, 1)) (hn : pc + 1 = n) (k : Lw g p e s m below meth c b n lv (v :: v :: st) M) : Lw g p e s m below meth c b pc lv (v :: st) M := by
  subst hn
  exact fun H locs cells slots ls hS hl => lv_dup C.1 C.2.1 hd h (k H locs cells slots ls hS hl)
theorem lw_iadd (C : LCw g p s m meth c b L xs) {x y : Int32} (hd : decode code pc = .ok (.iadd, 1)) (hn : pc + 1 = n) (k : Lw g p e s m below meth c b n lv (.int (x + y) :: st) M) : Lw g p e s m below meth c b pc lv (.int y :: .int x :: st) M := by
  subst hn
  exact fun H locs cells slots ls hS hl => lv_iadd C.1 C.2.1 hd (k H locs cells slots ls hS hl)
theorem lw_isub (C : LCw g p s m meth c b L xs) {x y : Int32} (hd : decode code pc = .ok (.isub, 1)) (hn : pc + 1 = n) (k : Lw g p e s m below meth c b n lv (.int (x - y) :: st) M) : Lw g p e s m below meth c b pc lv (.int y :: .int x :: st) M := by
  subst hn
  exact fun H locs cells slots ls hS hl => lv_isub C.1 C.2.1 hd (k H locs cells slots ls hS hl)
theorem lw_iand (C : LCw g p s m meth c b L xs) {x y : Int32} (hd : decode code pc = .ok (.iand, 1)) (hn : pc + 1 = n) (k : Lw g p e s m below meth c b n lv (.int (x &&& y) :: st) M) : Lw g p e s m below meth c b pc lv (.int y :: .int x :: st) M := by
  subst hn
  exact fun H locs cells slots ls hS hl => lv_iand C.1 C.2.1 hd (k H locs cells slots ls hS hl)
theorem lw_lcmp (C : LCw g p s m meth c b L xs) {x y : Int64} (hd : decode code pc = .ok (.lcmp, 1)) (hn : pc + 1 = n) (k : Lw g p e s m below meth c b n lv (.int (lg_cmp x y) :: st) M) : Lw g p e s m below meth c b pc lv (.long y :: .long x :: st) M := by
  subst hn
  exact fun H locs cells slots ls hS hl => W.lcmp C.1 C.2.1 hd (k H locs cells slots ls hS hl)
theorem lw_iald (C : LCw g p s m meth c b L xs) {i : Int32} (hi : vp_in i L) (hd : decode code pc = .ok (.iaload, 1)) (hn : pc + 1 = n) (k : Lw g p e s m below meth c b n lv (.int (xs i.toNatClampNeg) :: st) M) : Lw g p e s m below meth c b pc lv (.int i :: .ref b :: st) M := by
  subst hn
  exact fun H locs cells slots ls hS hl => va_sld (A := AA g) (H0 := s.heap) C.1 C.2.1 C.2.2.2.2.2.2.2.1 C.2.2.2.2.2.2.2.2.1 (lw_low C) hS.2.2.2 hi hd (k H locs cells slots ls hS hl)
theorem lw_alen (C : LCw g p s m meth c b L xs)  (hd : decode code pc = .ok (.arraylength, 1)) (hn : pc + 1 = n) (k : Lw g p e s m below meth c b n lv (.int (Int32.ofNat L) :: st) M) : Lw g p e s m below meth c b pc lv (.ref b :: st) M := by
  subst hn
  exact fun H locs cells slots ls hS hl => va_slen (A := AA g) (H0 := s.heap) C.1 C.2.1 C.2.2.2.2.2.2.2.1 C.2.2.2.2.2.2.2.2.1 (lw_low C) hS.2.2.2 hd (k H locs cells slots ls hS hl)
theorem lw_istore_n (C : LCw g p s m meth c b L xs) {i : Fin 4} {x : Int32} (hd : decode code pc = .ok (.istore_n i, 1)) (hn : pc + 1 = n) (hi : (i : Nat) < 4) (hl' : ((i : Nat), Value.int x) :: lv.filter (fun q => !(q.1 == (i : Nat)) && !(q.1 + 1 == (i : Nat) && q.2.category == 2)) = lv') (k : Lw g p e s m below meth c b n lv' st M) : Lw g p e s m below meth c b pc lv (Value.int x :: st) M := by
  subst hn
  exact fun H locs cells slots ls hS hl => lv_istore_n C.1 C.2.1 hd rfl hl hi hl' (fun ls' hl2 => k H locs cells slots ls' hS hl2)
theorem lw_astore_n (C : LCw g p s m meth c b L xs) {i : Fin 4} {x : Nat} (hd : decode code pc = .ok (.astore_n i, 1)) (hn : pc + 1 = n) (hi : (i : Nat) < 4) (hl' : ((i : Nat), Value.ref x) :: lv.filter (fun q => !(q.1 == (i : Nat)) && !(q.1 + 1 == (i : Nat) && q.2.category == 2)) = lv') (k : Lw g p e s m below meth c b n lv' st M) : Lw g p e s m below meth c b pc lv (Value.ref x :: st) M := by
  subst hn
  exact fun H locs cells slots ls hS hl => lv_astore_n C.1 C.2.1 hd rfl hl hi hl' (fun ls' hl2 => k H locs cells slots ls' hS hl2)
theorem lw_iinc (C : LCw g p s m meth c b L xs) {i q : Nat} {z : Int} {x v : Int32} (h : lv[q]? = some (i, .int x)) (hv : x + Int32.ofInt z = v) (hd : decode code pc = .ok (.iinc i z, 3)) (hn : pc + 3 = n) (hi : i < 4) (hl' : (i, Value.int v) :: lv.filter (fun q => !(q.1 == i) && !(q.1 + 1 == i && q.2.category == 2)) = lv') (k : Lw g p e s m below meth c b n lv' st M) : Lw g p e s m below meth c b pc lv st M := by
  subst hn
  exact fun H locs cells slots ls hS hl => lv_iinc C.1 C.2.1 hd hl h hv hi hl' (fun ls' hl2 => k H locs cells slots ls' hS hl2)
theorem lw_icmp_eq (C : LCw g p s m meth c b L xs) {x y : Int32} {off : Int} (hd : decode code pc = .ok (.if_icmp .eq off, 3)) (ht : (pc : Int) + off = (tgt : Int)) (hxy : x = y) (k : Lw g p e s m below meth c b tgt lv st M) : Lw g p e s m below meth c b pc lv (.int y :: .int x :: st) M := fun H locs cells slots ls hS hl => lv_icmp_eq C.1 C.2.1 hd ht (fun _ => k H locs cells slots ls hS hl) (fun z => absurd hxy z)
theorem lw_icmp_gt (C : LCw g p s m meth c b L xs) {x y : Int32} {off : Int} (hd : decode code pc = .ok (.if_icmp .gt off, 3)) (ht : (pc : Int) + off = (tgt : Int)) (hn : pc + 3 = n) (k : y < x → Lw g p e s m below meth c b tgt lv st M) (k2 : ¬ y < x → Lw g p e s m below meth c b n lv st M) : Lw g p e s m below meth c b pc lv (.int y :: .int x :: st) M := by
  subst hn
  exact fun H locs cells slots ls hS hl => lv_icmp_gt C.1 C.2.1 hd ht (fun z => k z H locs cells slots ls hS hl) (fun z => k2 z H locs cells slots ls hS hl)
theorem lw_if_eq (C : LCw g p s m meth c b L xs) {x : Int32} {off : Int} (hd : decode code pc = .ok (.ifCond .eq off, 3)) (ht : (pc : Int) + off = (tgt : Int)) (hx : x = 0) (k : Lw g p e s m below meth c b tgt lv st M) : Lw g p e s m below meth c b pc lv (.int x :: st) M := fun H locs cells slots ls hS hl => lv_if_eq C.1 C.2.1 hd ht (fun _ => k H locs cells slots ls hS hl) (fun z => absurd hx z)
theorem lw_goto (C : LCw g p s m meth c b L xs) {off : Int} (hd : decode code pc = .ok (.goto off, 3)) (ht : (pc : Int) + off = (n : Int)) (k : Lw g p e s m below meth c b n lv st M) : Lw g p e s m below meth c b pc lv st M := fun H locs cells slots ls hS hl => lv_goto C.1 C.2.1 hd ht (k H locs cells slots ls hS hl)
theorem lw_tabO (C : LCw g p s m meth c b L xs) {dflt lo hi : Int} {offs : Array Int} {len : Nat} {x : Int32} (hd : decode code pc = .ok (.tableswitch dflt lo hi offs, len)) (h : x.toInt < lo ∨ hi < x.toInt) (ht : (pc : Int) + dflt = (n : Int)) (k : Lw g p e s m below meth c b n lv st M) : Lw g p e s m below meth c b pc lv (.int x :: st) M := fun H locs cells slots ls hS hl => lv_tableOut C.1 C.2.1 hd h ht (k H locs cells slots ls hS hl)
theorem lw_tabI (C : LCw g p s m meth c b L xs) {dflt lo hi : Int} {offs : Array Int} {len : Nat} {x : Int32} {off : Int} (hd : decode code pc = .ok (.tableswitch dflt lo hi offs, len)) (h1 : ¬ x.toInt < lo) (h2 : ¬ hi < x.toInt) (ho : offs[(x.toInt - lo).toNat]? = some off) (ht : (pc : Int) + off = (n : Int)) (k : Lw g p e s m below meth c b n lv st M) : Lw g p e s m below meth c b pc lv (.int x :: st) M := fun H locs cells slots ls hS hl => lv_tableIn C.1 C.2.1 hd h1 h2 ho ht (k H locs cells slots ls hS hl)
theorem lw_sub (ks : List Nat) (hs : lv_pick lv ks = lv') (k : Lw g p e s m below meth c b pc lv' st M) : Lw g p e s m below meth c b pc lv st M := fun H locs cells slots ls hS hl => k H locs cells slots ls hS (lv_sub hl ks hs)
theorem lw_end (C : LCw g p s m meth c b L xs) (hd : decode code pc = .ok (.ireturn, 1)) (h1 : mx M ≤ room_1.cells) (h2 : ms M ≤ room_1.slots) : Lw g p e s m below meth c b pc lv [.int 1] M := fun H locs cells slots ls hS hl => by
  have e1 := hS.1
  have e2 := hS.2.1
  refine va_forget (fun q hq => ?_) (W.widen (k := room_1.cells) (n := room_1.slots) (by omega) (by omega) (lw_ret C.1 C.2.1 C.2.2.2.2.2.1 C.2.2.2.2.2.2.1 hd))
  have h3 : gb g ≤ q.base := hS.2.2.2.2.2 q hq
  rw [C.2.2.2.2.2.2.2.2.2.1]; exact h3
end LAWR
