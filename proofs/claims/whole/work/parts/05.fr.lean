/-! the judgements -/
def TB : List Cond := lw_tbl.filter goodWord
theorem TB_good : GoodIn TB TB := fun w h => ⟨h, good_of_word (List.mem_filter.mp h).2⟩
/-- a method: its name, its bytes, its locals, its answer -/
abbrev MD : Type := MethodName × ByteArray × Nat × Option FieldType
def txtL : List (Nat × String) := [(87, "tap"), (89, "heading"), (91, "x"), (93, "y"), (95, "here"), (97, "ahead"), (99, "rider"), (101, "carrier"), (103, "sight"), (105, "pace"), (107, "asks"), (109, "does"), (111, "fears"), (113, "likes"), (115, "if"), (117, "end"), (119, "or"), (121, "and"), (123, "not"), (125, "")]
def lenL : List Nat := [3, 7, 1, 1, 4, 5, 5, 7, 5, 4, 4, 4, 5, 5, 2, 3, 2, 3, 3, 0]
def bytL : List (List Int32) := [[116, 97, 112], [104, 101, 97, 100, 105, 110, 103], [120], [121], [104, 101, 114, 101], [97, 104, 101, 97, 100], [114, 105, 100, 101, 114], [99, 97, 114, 114, 105, 101, 114], [115, 105, 103, 104, 116], [112, 97, 99, 101], [97, 115, 107, 115], [100, 111, 101, 115], [102, 101, 97, 114, 115], [108, 105, 107, 101, 115], [105, 102], [101, 110, 100], [111, 114], [97, 110, 100], [110, 111, 116], []]
def nestL : List (String × Nat × MethodName) := [(RX11, 20, yX5_init), (RX5, 11, yX9_init), (RX11, 27, yX4_init), (RX7, 88, yX11_poseOf), (RX1, 75, yX11_poseOf), (RX0, 74, yX11_poseOf)]
/-- the String constants, String's own static, the links to nest mates -/
def SK (g : GE) (s : State) : Prop := va_AO RX6 s ∧ (∀ q ∈ nestL, va_Nw (.methodLinkNest q.1 q.2.1 q.2.2 RX11) s) ∧ va_Nw (.castable "[I" "java/lang/Cloneable") s ∧ va_Zq "jdk/internal/util/Preconditions" "SIOOBE_FORMATTER" "Ljava/util/function/BiFunction;" (AA g) s s.heap ∧ vk_S 20 lenL bytL (gK g) (gV g) (AA g) s s.heap ∧ (∀ i, i < 20 → vk_R RX9 (txtL.getD i (0, "")).1 (txtL.getD i (0, "")).2 (gK g i) s) ∧ va_Z "java/lang/String" "COMPACT_STRINGS" "Z" (.int 1) (AA g) s s.heap
def PcB (g : GE) (M : Mem) (U : State) : Prop := U.heap.size = gb g + mx M ∧ va_P (gD g) vwCl (wsO g M) U.heap ∧ va_K (gD g) vwCl (tyL g) U ∧ SK g U
def PcG (g : GE) (av : List Value) (M : Mem) : Array Value → State → Prop := va_Pc av (PcB g M)
def QcG (g : GE) (r : Option Value) (M' : Mem) : Array Value → State → Outcome → State → Prop := fun _ st oc t => oc = .returned r ∧ va_P (gD g) vwCl (wsO g M') t.heap ∧ va_F (AA g) st t
def rmD (d : Nat) (M M' : Mem) : Room := { frames := d, cells := mx M' - mx M, slots := ms M' - ms M, locals := 41 * d }
abbrev wsM (μ : MD) : List Cond := .code μ.1 μ.2.1 μ.2.2.1 μ.2.2.2 :: TB
/-- the call of the method μ with the values av from the memory M answers r, and the memory is then M' -/
def Cl (g : GE) (d : Nat) (μ : MD) (av : List Value) (M : Mem) (r : Option Value) (M' : Mem) : Prop :=
  Ext M M' ∧ Met (gl g) μ.1 (wsM μ) (rmD d M M') (PcG g av M) (QcG g r M') (mx M' - mx M) (ms M' - ms M) (AA g)
/-- what stays while a frame of μ runs -/
def Cx (g : GE) (d : Nat) (μ : MD) (p : Program) (s : State) (m : MethodId) (args : Array Value) (meth : Method) (c : Code) (R : Room) (x0 s0 : Nat) (M' : Mem) : Prop :=
  p.tables.exec = Jvm.exec ∧ c.code = μ.2.1 ∧ c.maxLocals = μ.2.2.1 ∧ s.vm.findClass μ.1.cls = some m.cls ∧ (∀ w ∈ TB, w.before args s = true) ∧ meth.sig.returnType = μ.2.2.2 ∧ meth.locks = false ∧ meth.name = μ.1.name ∧ d ≤ R.frames ∧ 41 * d ≤ R.locals ∧ R.cells + x0 = mx M' ∧ R.slots + s0 = ms M' ∧ s.heap.size = gb g + x0 ∧ va_K (gD g) vwCl (tyL g) s ∧ SK g s
/-- the heap stands for M -/
def Sd (g : GE) (M : Mem) (H : Heap) (s : State) (locs : List Loc) (x0 s0 cells slots : Nat) : Prop := cells + x0 = mx M ∧ slots + s0 = ms M ∧ va_P (gD g) vwCl (wsO g M) H ∧ va_S (AA g) s.heap H locs
/-- a frame of μ, at pc, with the locals lv, the operands st and the memory M, comes to its return with r, and the memory is then M' -/
def Fr (g : GE) (d : Nat) (μ : MD) (pc : Nat) (lv : List (Nat × Value)) (st : List Value) (M : Mem) (r : Option Value) (M' : Mem) : Prop :=
  Ext M M' ∧ ∀ (p : Program) (e : Env) (s : State) (m : MethodId) (args : Array Value) (below : List Frame) (meth : Method) (c : Code) (R : Room) (x0 s0 : Nat) (H : Heap) (locs : List Loc) (cells slots : Nat) (ls : Array Slot),
    Cx g d μ p s m args meth c R x0 s0 M' → Sd g M H s locs x0 s0 cells slots → lv_has ls μ.2.2.1 lv →
    W p (gl g) e R s m args below meth c H locs cells slots (MQ below (QcG g r M') args s (mx M' - x0) (ms M' - s0) (AA g)) (F0 m pc ls st)
section FR
variable {g : GE} {d : Nat} {μ : MD} {pc n tgt : Nat} {lv lv' : List (Nat × Value)} {st st' stk : List Value} {M M1 M' : Mem} {r : Option Value}
theorem fr_pure (h : ∀ (p : Program) (e : Env) (s : State) (m : MethodId) (args : Array Value) (below : List Frame) (meth : Method) (c : Code) (R : Room) (H : Heap) (locs : List Loc) (cells slots : Nat) (ls : Array Slot) (Q : State → Prop), p.tables.exec = Jvm.exec → c.code = μ.2.1 → lv_has ls μ.2.2.1 lv → s.vm.findClass μ.1.cls = some m.cls → (∀ w ∈ TB, w.before args s = true) →
      W p (gl g) e R s m args below meth c H locs cells slots Q (F0 m n ls st') → W p (gl g) e R s m args below meth c H locs cells slots Q (F0 m pc ls st))
    (k : Fr g d μ n lv st' M r M') : Fr g d μ pc lv st M r M' :=
  ⟨k.1, fun p e s m args below meth c R x0 s0 H locs cells slots ls hC hS hl => h p e s m args below meth c R H locs cells slots ls _ hC.1 hC.2.1 hl hC.2.2.2.1 hC.2.2.2.2.1 (k.2 p e s m args below meth c R x0 s0 H locs cells slots ls hC hS hl)⟩
theorem fr_lv (h : ∀ (p : Program) (e : Env) (s : State) (m : MethodId) (args : Array Value) (below : List Frame) (meth : Method) (c : Code) (R : Room) (H : Heap) (locs : List Loc) (cells slots : Nat) (ls : Array Slot) (Q : State → Prop), p.tables.exec = Jvm.exec → c.code = μ.2.1 → lv_has ls μ.2.2.1 lv →
      (∀ ls' : Array Slot, lv_has ls' μ.2.2.1 lv' → W p (gl g) e R s m args below meth c H locs cells slots Q (F0 m n ls' st')) → W p (gl g) e R s m args below meth c H locs cells slots Q (F0 m pc ls st))
    (k : Fr g d μ n lv' st' M r M') : Fr g d μ pc lv st M r M' :=
  ⟨k.1, fun p e s m args below meth c R x0 s0 H locs cells slots ls hC hS hl => h p e s m args below meth c R H locs cells slots ls _ hC.1 hC.2.1 hl (fun ls' hl' => k.2 p e s m args below meth c R x0 s0 H locs cells slots ls' hC hS hl')⟩
theorem fr_br {q : Prop} (h : ∀ (p : Program) (e : Env) (s : State) (m : MethodId) (args : Array Value) (below : List Frame) (meth : Method) (c : Code) (R : Room) (H : Heap) (locs : List Loc) (cells slots : Nat) (ls : Array Slot) (Q : State → Prop), p.tables.exec = Jvm.exec → c.code = μ.2.1 → (q → W p (gl g) e R s m args below meth c H locs cells slots Q (F0 m tgt ls st')) → (¬ q → W p (gl g) e R s m args below meth c H locs cells slots Q (F0 m n ls st')) → W p (gl g) e R s m args below meth c H locs cells slots Q (F0 m pc ls st))
    (k : q → Fr g d μ tgt lv st' M r M') (k2 : ¬ q → Fr g d μ n lv st' M r M') : Fr g d μ pc lv st M r M' :=
  ⟨(Classical.em q).elim (fun x => (k x).1) (fun x => (k2 x).1), fun p e s m args below meth c R x0 s0 H locs cells slots ls hC hS hl => h p e s m args below meth c R H locs cells slots ls _ hC.1 hC.2.1 (fun x => (k x).2 p e s m args below meth c R x0 s0 H locs cells slots ls hC hS hl) (fun x => (k2 x).2 p e s m args below meth c R x0 s0 H locs cells slots ls hC hS hl)⟩
/-- fewer locals, in any order -/
theorem fr_sub (ks : List Nat) (hs : lv_pick lv ks = lv') (k : Fr g d μ pc lv' st M r M') : Fr g d μ pc lv st M r M' :=
  ⟨k.1, fun p e s m args below meth c R x0 s0 H locs cells slots ls hC hS hl => k.2 p e s m args below meth c R x0 s0 H locs cells slots ls hC hS (lv_sub hl ks hs)⟩

theorem fr_iload_n {i : Fin 4} {q : Nat} {x : Int32} (h : lv[q]? = some ((i : Nat), .int x)) (hd : decode μ.2.1 pc = .ok (.iload_n i, 1)) (hn : pc + 1 = n) (k : Fr g d μ n lv (.int x :: st) M r M') : Fr g d μ pc lv (st) M r M' := by
  subst hn
  exact fr_pure (fun p e s m args below meth c R H locs cells slots ls Q hx hb hl hown hts kk => lv_iload_n hx hb hd rfl (lv_at hl q h) kk) k
theorem fr_iload {i q : Nat} {x : Int32} (h : lv[q]? = some (i, .int x)) (hd : decode μ.2.1 pc = .ok (.iload i, 2)) (hn : pc + 2 = n) (k : Fr g d μ n lv (.int x :: st) M r M') : Fr g d μ pc lv (st) M r M' := by
  subst hn
  exact fr_pure (fun p e s m args below meth c R H locs cells slots ls Q hx hb hl hown hts kk => lv_iload hx hb hd (lv_at hl q h) kk) k
theorem fr_lload_n {i : Fin 4} {q : Nat} {x : Int64} (h : lv[q]? = some ((i : Nat), .long x)) (hd : decode μ.2.1 pc = .ok (.lload_n i, 1)) (hn : pc + 1 = n) (k : Fr g d μ n lv (.long x :: st) M r M') : Fr g d μ pc lv (st) M r M' := by
  subst hn
  exact fr_pure (fun p e s m args below meth c R H locs cells slots ls Q hx hb hl hown hts kk => lv_lload_n hx hb hd rfl (lv_at hl q h) kk) k
theorem fr_lload {i q : Nat} {x : Int64} (h : lv[q]? = some (i, .long x)) (hd : decode μ.2.1 pc = .ok (.lload i, 2)) (hn : pc + 2 = n) (k : Fr g d μ n lv (.long x :: st) M r M') : Fr g d μ pc lv (st) M r M' := by
  subst hn
  exact fr_pure (fun p e s m args below meth c R H locs cells slots ls Q hx hb hl hown hts kk => lv_lload hx hb hd (lv_at hl q h) kk) k
theorem fr_aload_n {i : Fin 4} {q : Nat} {x : Nat} (h : lv[q]? = some ((i : Nat), .ref x)) (hd : decode μ.2.1 pc = .ok (.aload_n i, 1)) (hn : pc + 1 = n) (k : Fr g d μ n lv (.ref x :: st) M r M') : Fr g d μ pc lv (st) M r M' := by
  subst hn
  exact fr_pure (fun p e s m args below meth c R H locs cells slots ls Q hx hb hl hown hts kk => lv_aload_n hx hb hd rfl (lv_at hl q h) kk) k
theorem fr_aload {i q : Nat} {x : Nat} (h : lv[q]? = some (i, .ref x)) (hd : decode μ.2.1 pc = .ok (.aload i, 2)) (hn : pc + 2 = n) (k : Fr g d μ n lv (.ref x :: st) M r M') : Fr g d μ pc lv (st) M r M' := by
  subst hn
  exact fr_pure (fun p e s m args below meth c R H locs cells slots ls Q hx hb hl hown hts kk => lv_aload hx hb hd (lv_at hl q h) kk) k
theorem fr_iconst {z : Int} {v : Int32} (hv : Int32.ofInt z = v) (hd : decode μ.2.1 pc = .ok (.iconst z, 1)) (hn : pc + 1 = n) (k : Fr g d μ n lv (.int v :: st) M r M') : Fr g d μ pc lv (st) M r M' := by
  subst hn
  exact fr_pure (fun p e s m args below meth c R H locs cells slots ls Q hx hb hl hown hts kk => lv_iconst hx hb hd hv kk) k
theorem fr_bipush {z : Int} {v : Int32} (hv : (Int8.ofInt z).toInt32 = v) (hd : decode μ.2.1 pc = .ok (.bipush z, 2)) (hn : pc + 2 = n) (k : Fr g d μ n lv (.int v :: st) M r M') : Fr g d μ pc lv (st) M r M' := by
  subst hn
  exact fr_pure (fun p e s m args below meth c R H locs cells slots ls Q hx hb hl hown hts kk => lv_bipush hx hb hd hv kk) k
theorem fr_sipush {z : Int} {v : Int32} (hv : (Int16.ofInt z).toInt32 = v) (hd : decode μ.2.1 pc = .ok (.sipush z, 3)) (hn : pc + 3 = n) (k : Fr g d μ n lv (.int v :: st) M r M') : Fr g d μ pc lv (st) M r M' := by
  subst hn
  exact fr_pure (fun p e s m args below meth c R H locs cells slots ls Q hx hb hl hown hts kk => lv_sipush hx hb hd hv kk) k
theorem fr_lconst {z : Fin 2} {v : Int64} (hv : Int64.ofNat (z : Nat) = v) (hd : decode μ.2.1 pc = .ok (.lconst z, 1)) (hn : pc + 1 = n) (k : Fr g d μ n lv (.long v :: st) M r M') : Fr g d μ pc lv (st) M r M' := by
  subst hn
  exact fr_pure (fun p e s m args below meth c R H locs cells slots ls Q hx hb hl hown hts kk => lv_lconst hx hb hd hv kk) k
theorem fr_ldc {i : Nat} {v : Int32} (hw : Cond.constant μ.1.cls i v ∈ TB) (hd : decode μ.2.1 pc = .ok (.ldc i, 2)) (hn : pc + 2 = n) (k : Fr g d μ n lv (.int v :: st) M r M') : Fr g d μ pc lv (st) M r M' := by
  subst hn
  exact fr_pure (fun p e s m args below meth c R H locs cells slots ls Q hx hb hl hown hts kk => lv_ldc hx hb hown (hts _ hw) hd kk) k
theorem fr_ldcw {i : Nat} {v : Int32} (hw : Cond.constant μ.1.cls i v ∈ TB) (hd : decode μ.2.1 pc = .ok (.ldc_w i, 3)) (hn : pc + 3 = n) (k : Fr g d μ n lv (.int v :: st) M r M') : Fr g d μ pc lv (st) M r M' := by
  subst hn
  exact fr_pure (fun p e s m args below meth c R H locs cells slots ls Q hx hb hl hown hts kk => lv_ldcw hx hb hown (hts _ hw) hd kk) k
theorem fr_ldc2 {i : Nat} {v : Int64} (hw : Cond.constantLong μ.1.cls i v ∈ TB) (hd : decode μ.2.1 pc = .ok (.ldc2_w i, 3)) (hn : pc + 3 = n) (k : Fr g d μ n lv (.long v :: st) M r M') : Fr g d μ pc lv (st) M r M' := by
  subst hn
  exact fr_pure (fun p e s m args below meth c R H locs cells slots ls Q hx hb hl hown hts kk => lv_ldc2 hx hb hown (hts _ hw) hd kk) k
theorem fr_null  (hd : decode μ.2.1 pc = .ok (.aconst_null, 1)) (hn : pc + 1 = n) (k : Fr g d μ n lv (.null :: st) M r M') : Fr g d μ pc lv (st) M r M' := by
  subst hn
  exact fr_pure (fun p e s m args below meth c R H locs cells slots ls Q hx hb hl hown hts kk => lv_null hx hb hd kk) k
theorem fr_dup {v : Value} (h : v.category = 1) (hd : decode μ.2.1 pc = .ok (.dup, 1)) (hn : pc + 1 = n) (k : Fr g d μ n lv (v :: v :: st) M r M') : Fr g d μ pc lv (v :: st) M r M' := by
  subst hn
  exact fr_pure (fun p e s m args below meth c R H locs cells slots ls Q hx hb hl hown hts kk => lv_dup hx hb hd h kk) k
theorem fr_dup2 {v w : Value} (h : v.category = 1) (h2 : w.category = 1) (hd : decode μ.2.1 pc = .ok (.dup2, 1)) (hn : pc + 1 = n) (k : Fr g d μ n lv (v :: w :: v :: w :: st) M r M') : Fr g d μ pc lv (v :: w :: st) M r M' := by
  subst hn
  exact fr_pure (fun p e s m args below meth c R H locs cells slots ls Q hx hb hl hown hts kk => lv_dup2_11 hx hb hd h h2 kk) k
theorem fr_dup2L {v : Value} (h : v.category = 2) (hd : decode μ.2.1 pc = .ok (.dup2, 1)) (hn : pc + 1 = n) (k : Fr g d μ n lv (v :: v :: st) M r M') : Fr g d μ pc lv (v :: st) M r M' := by
  subst hn
  exact fr_pure (fun p e s m args below meth c R H locs cells slots ls Q hx hb hl hown hts kk => lv_dup2_2 hx hb hd h kk) k
theorem fr_pop {v : Value} (h : v.category = 1) (hd : decode μ.2.1 pc = .ok (.pop, 1)) (hn : pc + 1 = n) (k : Fr g d μ n lv (st) M r M') : Fr g d μ pc lv (v :: st) M r M' := by
  subst hn
  exact fr_pure (fun p e s m args below meth c R H locs cells slots ls Q hx hb hl hown hts kk => lv_pop hx hb hd h kk) k
theorem fr_iadd {x y : Int32} (hd : decode μ.2.1 pc = .ok (.iadd, 1)) (hn : pc + 1 = n) (k : Fr g d μ n lv (.int (x + y) :: st) M r M') : Fr g d μ pc lv (.int y :: .int x :: st) M r M' := by
  subst hn
  exact fr_pure (fun p e s m args below meth c R H locs cells slots ls Q hx hb hl hown hts kk => lv_iadd hx hb hd kk) k
theorem fr_isub {x y : Int32} (hd : decode μ.2.1 pc = .ok (.isub, 1)) (hn : pc + 1 = n) (k : Fr g d μ n lv (.int (x - y) :: st) M r M') : Fr g d μ pc lv (.int y :: .int x :: st) M r M' := by
  subst hn
  exact fr_pure (fun p e s m args below meth c R H locs cells slots ls Q hx hb hl hown hts kk => lv_isub hx hb hd kk) k
theorem fr_imul {x y : Int32} (hd : decode μ.2.1 pc = .ok (.imul, 1)) (hn : pc + 1 = n) (k : Fr g d μ n lv (.int (x * y) :: st) M r M') : Fr g d μ pc lv (.int y :: .int x :: st) M r M' := by
  subst hn
  exact fr_pure (fun p e s m args below meth c R H locs cells slots ls Q hx hb hl hown hts kk => lv_imul hx hb hd kk) k
theorem fr_iand {x y : Int32} (hd : decode μ.2.1 pc = .ok (.iand, 1)) (hn : pc + 1 = n) (k : Fr g d μ n lv (.int (x &&& y) :: st) M r M') : Fr g d μ pc lv (.int y :: .int x :: st) M r M' := by
  subst hn
  exact fr_pure (fun p e s m args below meth c R H locs cells slots ls Q hx hb hl hown hts kk => lv_iand hx hb hd kk) k
theorem fr_ior {x y : Int32} (hd : decode μ.2.1 pc = .ok (.ior, 1)) (hn : pc + 1 = n) (k : Fr g d μ n lv (.int (x ||| y) :: st) M r M') : Fr g d μ pc lv (.int y :: .int x :: st) M r M' := by
  subst hn
  exact fr_pure (fun p e s m args below meth c R H locs cells slots ls Q hx hb hl hown hts kk => lv_ior hx hb hd kk) k
theorem fr_ishl {x y : Int32} (hd : decode μ.2.1 pc = .ok (.ishl, 1)) (hn : pc + 1 = n) (k : Fr g d μ n lv (.int (x <<< (y &&& 31)) :: st) M r M') : Fr g d μ pc lv (.int y :: .int x :: st) M r M' := by
  subst hn
  exact fr_pure (fun p e s m args below meth c R H locs cells slots ls Q hx hb hl hown hts kk => lv_ishl hx hb hd kk) k
theorem fr_ishr {x y : Int32} (hd : decode μ.2.1 pc = .ok (.ishr, 1)) (hn : pc + 1 = n) (k : Fr g d μ n lv (.int (x >>> (y &&& 31)) :: st) M r M') : Fr g d μ pc lv (.int y :: .int x :: st) M r M' := by
  subst hn
  exact fr_pure (fun p e s m args below meth c R H locs cells slots ls Q hx hb hl hown hts kk => lv_ishr hx hb hd kk) k
theorem fr_iushr {x y : Int32} (hd : decode μ.2.1 pc = .ok (.iushr, 1)) (hn : pc + 1 = n) (k : Fr g d μ n lv (.int ((x.toUInt32 >>> (y.toUInt32 &&& Int32.toUInt32 31)).toInt32) :: st) M r M') : Fr g d μ pc lv (.int y :: .int x :: st) M r M' := by
  subst hn
  exact fr_pure (fun p e s m args below meth c R H locs cells slots ls Q hx hb hl hown hts kk => lv_iushr hx hb hd rfl kk) k
theorem fr_idiv {x y : Int32} (h : ¬ y = 0) (hd : decode μ.2.1 pc = .ok (.idiv, 1)) (hn : pc + 1 = n) (k : Fr g d μ n lv (.int (x / y) :: st) M r M') : Fr g d μ pc lv (.int y :: .int x :: st) M r M' := by
  subst hn
  exact fr_pure (fun p e s m args below meth c R H locs cells slots ls Q hx hb hl hown hts kk => lv_idiv hx hb hd h kk) k
theorem fr_irem {x y : Int32} (h : ¬ y = 0) (hd : decode μ.2.1 pc = .ok (.irem, 1)) (hn : pc + 1 = n) (k : Fr g d μ n lv (.int (x - x / y * y) :: st) M r M') : Fr g d μ pc lv (.int y :: .int x :: st) M r M' := by
  subst hn
  exact fr_pure (fun p e s m args below meth c R H locs cells slots ls Q hx hb hl hown hts kk => lv_irem hx hb hd h kk) k
theorem fr_ineg {x : Int32} (hd : decode μ.2.1 pc = .ok (.ineg, 1)) (hn : pc + 1 = n) (k : Fr g d μ n lv (.int (-x) :: st) M r M') : Fr g d μ pc lv (.int x :: st) M r M' := by
  subst hn
  exact fr_pure (fun p e s m args below meth c R H locs cells slots ls Q hx hb hl hown hts kk => lv_ineg hx hb hd kk) k
theorem fr_ladd {x y : Int64} (hd : decode μ.2.1 pc = .ok (.ladd, 1)) (hn : pc + 1 = n) (k : Fr g d μ n lv (.long (x + y) :: st) M r M') : Fr g d μ pc lv (.long y :: .long x :: st) M r M' := by
  subst hn
  exact fr_pure (fun p e s m args below meth c R H locs cells slots ls Q hx hb hl hown hts kk => lv_ladd hx hb hd kk) k
theorem fr_lsub {x y : Int64} (hd : decode μ.2.1 pc = .ok (.lsub, 1)) (hn : pc + 1 = n) (k : Fr g d μ n lv (.long (x - y) :: st) M r M') : Fr g d μ pc lv (.long y :: .long x :: st) M r M' := by
  subst hn
  exact fr_pure (fun p e s m args below meth c R H locs cells slots ls Q hx hb hl hown hts kk => lv_lsub hx hb hd kk) k
theorem fr_lmul {x y : Int64} (hd : decode μ.2.1 pc = .ok (.lmul, 1)) (hn : pc + 1 = n) (k : Fr g d μ n lv (.long (x * y) :: st) M r M') : Fr g d μ pc lv (.long y :: .long x :: st) M r M' := by
  subst hn
  exact fr_pure (fun p e s m args below meth c R H locs cells slots ls Q hx hb hl hown hts kk => lv_lmul hx hb hd kk) k
theorem fr_land {x y : Int64} (hd : decode μ.2.1 pc = .ok (.land, 1)) (hn : pc + 1 = n) (k : Fr g d μ n lv (.long (x &&& y) :: st) M r M') : Fr g d μ pc lv (.long y :: .long x :: st) M r M' := by
  subst hn
  exact fr_pure (fun p e s m args below meth c R H locs cells slots ls Q hx hb hl hown hts kk => lv_land hx hb hd kk) k
theorem fr_lor {x y : Int64} (hd : decode μ.2.1 pc = .ok (.lor, 1)) (hn : pc + 1 = n) (k : Fr g d μ n lv (.long (x ||| y) :: st) M r M') : Fr g d μ pc lv (.long y :: .long x :: st) M r M' := by
  subst hn
  exact fr_pure (fun p e s m args below meth c R H locs cells slots ls Q hx hb hl hown hts kk => lv_lor hx hb hd kk) k
theorem fr_lshl {x : Int64} {y : Int32} (hd : decode μ.2.1 pc = .ok (.lshl, 1)) (hn : pc + 1 = n) (k : Fr g d μ n lv (.long (x <<< (y.toInt64 &&& 63)) :: st) M r M') : Fr g d μ pc lv (.int y :: .long x :: st) M r M' := by
  subst hn
  exact fr_pure (fun p e s m args below meth c R H locs cells slots ls Q hx hb hl hown hts kk => lv_lshl hx hb hd rfl kk) k
theorem fr_ldiv {x y : Int64} (h : ¬ y = 0) (hd : decode μ.2.1 pc = .ok (.ldiv, 1)) (hn : pc + 1 = n) (k : Fr g d μ n lv (.long (x / y) :: st) M r M') : Fr g d μ pc lv (.long y :: .long x :: st) M r M' := by
  subst hn
  exact fr_pure (fun p e s m args below meth c R H locs cells slots ls Q hx hb hl hown hts kk => lv_ldiv hx hb hd h kk) k
theorem fr_lrem {x y : Int64} (h : ¬ y = 0) (hd : decode μ.2.1 pc = .ok (.lrem, 1)) (hn : pc + 1 = n) (k : Fr g d μ n lv (.long (x - x / y * y) :: st) M r M') : Fr g d μ pc lv (.long y :: .long x :: st) M r M' := by
  subst hn
  exact fr_pure (fun p e s m args below meth c R H locs cells slots ls Q hx hb hl hown hts kk => lv_lrem hx hb hd h kk) k
theorem fr_lneg {x : Int64} (hd : decode μ.2.1 pc = .ok (.lneg, 1)) (hn : pc + 1 = n) (k : Fr g d μ n lv (.long (-x) :: st) M r M') : Fr g d μ pc lv (.long x :: st) M r M' := by
  subst hn
  exact fr_pure (fun p e s m args below meth c R H locs cells slots ls Q hx hb hl hown hts kk => lv_lneg hx hb hd kk) k
theorem fr_i2l {x : Int32} (hd : decode μ.2.1 pc = .ok (.i2l, 1)) (hn : pc + 1 = n) (k : Fr g d μ n lv (.long x.toInt64 :: st) M r M') : Fr g d μ pc lv (.int x :: st) M r M' := by
  subst hn
  exact fr_pure (fun p e s m args below meth c R H locs cells slots ls Q hx hb hl hown hts kk => lv_i2l hx hb hd rfl kk) k
theorem fr_l2i {x : Int64} (hd : decode μ.2.1 pc = .ok (.l2i, 1)) (hn : pc + 1 = n) (k : Fr g d μ n lv (.int x.toInt32 :: st) M r M') : Fr g d μ pc lv (.long x :: st) M r M' := by
  subst hn
  exact fr_pure (fun p e s m args below meth c R H locs cells slots ls Q hx hb hl hown hts kk => lv_l2i hx hb hd rfl kk) k
theorem fr_lcmp {x y : Int64} (hd : decode μ.2.1 pc = .ok (.lcmp, 1)) (hn : pc + 1 = n) (k : Fr g d μ n lv (.int (lg_cmp x y) :: st) M r M') : Fr g d μ pc lv (.long y :: .long x :: st) M r M' := by
  subst hn
  exact fr_pure (fun p e s m args below meth c R H locs cells slots ls Q hx hb hl hown hts kk => W.lcmp hx hb hd kk) k
theorem fr_istore_n {i : Fin 4} {x : Int32} (hd : decode μ.2.1 pc = .ok (.istore_n i, 1)) (hn : pc + 1 = n) (hi : (i : Nat) < μ.2.2.1) (hl' : ((i : Nat), Value.int x) :: lv.filter (fun q => !(q.1 == (i : Nat)) && !(q.1 + 1 == (i : Nat) && q.2.category == 2)) = lv') (k : Fr g d μ n lv' st M r M') : Fr g d μ pc lv (.int x :: st) M r M' := by
  subst hn
  exact fr_lv (fun p e s m args below meth c R H locs cells slots ls Q hx hb hl kk => lv_istore_n hx hb hd rfl hl hi hl' kk) k
theorem fr_istore {i : Nat} {x : Int32} (hd : decode μ.2.1 pc = .ok (.istore i, 2)) (hn : pc + 2 = n) (hi : i < μ.2.2.1) (hl' : (i, Value.int x) :: lv.filter (fun q => !(q.1 == i) && !(q.1 + 1 == i && q.2.category == 2)) = lv') (k : Fr g d μ n lv' st M r M') : Fr g d μ pc lv (.int x :: st) M r M' := by
  subst hn
  exact fr_lv (fun p e s m args below meth c R H locs cells slots ls Q hx hb hl kk => lv_istore hx hb hd hl hi hl' kk) k
theorem fr_astore_n {i : Fin 4} {x : Nat} (hd : decode μ.2.1 pc = .ok (.astore_n i, 1)) (hn : pc + 1 = n) (hi : (i : Nat) < μ.2.2.1) (hl' : ((i : Nat), Value.ref x) :: lv.filter (fun q => !(q.1 == (i : Nat)) && !(q.1 + 1 == (i : Nat) && q.2.category == 2)) = lv') (k : Fr g d μ n lv' st M r M') : Fr g d μ pc lv (.ref x :: st) M r M' := by
  subst hn
  exact fr_lv (fun p e s m args below meth c R H locs cells slots ls Q hx hb hl kk => lv_astore_n hx hb hd rfl hl hi hl' kk) k
theorem fr_astore {i : Nat} {x : Nat} (hd : decode μ.2.1 pc = .ok (.astore i, 2)) (hn : pc + 2 = n) (hi : i < μ.2.2.1) (hl' : (i, Value.ref x) :: lv.filter (fun q => !(q.1 == i) && !(q.1 + 1 == i && q.2.category == 2)) = lv') (k : Fr g d μ n lv' st M r M') : Fr g d μ pc lv (.ref x :: st) M r M' := by
  subst hn
  exact fr_lv (fun p e s m args below meth c R H locs cells slots ls Q hx hb hl kk => lv_astore hx hb hd hl hi hl' kk) k
theorem fr_lstore_n {i : Fin 4} {x : Int64} (hd : decode μ.2.1 pc = .ok (.lstore_n i, 1)) (hn : pc + 1 = n) (hi : (i : Nat) + 1 < μ.2.2.1) (hl' : ((i : Nat), Value.long x) :: lv.filter (fun q => !(q.1 == (i : Nat)) && (!(q.1 == (i : Nat) + 1) && !(q.1 + 1 == (i : Nat) && q.2.category == 2))) = lv') (k : Fr g d μ n lv' st M r M') : Fr g d μ pc lv (.long x :: st) M r M' := by
  subst hn
  exact fr_lv (fun p e s m args below meth c R H locs cells slots ls Q hx hb hl kk => lv_lstore_n hx hb hd rfl hl hi hl' kk) k
theorem fr_lstore {i : Nat} {x : Int64} (hd : decode μ.2.1 pc = .ok (.lstore i, 2)) (hn : pc + 2 = n) (hi : i + 1 < μ.2.2.1) (hl' : (i, Value.long x) :: lv.filter (fun q => !(q.1 == i) && (!(q.1 == i + 1) && !(q.1 + 1 == i && q.2.category == 2))) = lv') (k : Fr g d μ n lv' st M r M') : Fr g d μ pc lv (.long x :: st) M r M' := by
  subst hn
  exact fr_lv (fun p e s m args below meth c R H locs cells slots ls Q hx hb hl kk => lv_lstore hx hb hd hl hi hl' kk) k
theorem fr_iinc {i q : Nat} {z : Int} {x v : Int32} (h : lv[q]? = some (i, .int x)) (hv : x + Int32.ofInt z = v) (hd : decode μ.2.1 pc = .ok (.iinc i z, 3)) (hn : pc + 3 = n) (hi : i < μ.2.2.1) (hl' : (i, Value.int v) :: lv.filter (fun q => !(q.1 == i) && !(q.1 + 1 == i && q.2.category == 2)) = lv') (k : Fr g d μ n lv' st M r M') : Fr g d μ pc lv st M r M' := by
  subst hn
  exact fr_lv (fun p e s m args below meth c R H locs cells slots ls Q hx hb hl kk => lv_iinc hx hb hd hl h hv hi hl' kk) k
theorem fr_if_eq {x : Int32} {off : Int} (hd : decode μ.2.1 pc = .ok (.ifCond .eq off, 3)) (ht : (pc : Int) + off = (tgt : Int)) (hn : pc + 3 = n) (k : x = 0 → Fr g d μ tgt lv st M r M') (k2 : ¬ x = 0 → Fr g d μ n lv st M r M') : Fr g d μ pc lv (.int x :: st) M r M' := by
  subst hn
  exact fr_br (fun p e s m args below meth c R H locs cells slots ls Q hx hb k1 k2 => lv_if_eq hx hb hd ht k1 k2) k k2
theorem fr_if_ne {x : Int32} {off : Int} (hd : decode μ.2.1 pc = .ok (.ifCond .ne off, 3)) (ht : (pc : Int) + off = (tgt : Int)) (hn : pc + 3 = n) (k : ¬ x = 0 → Fr g d μ tgt lv st M r M') (k2 : x = 0 → Fr g d μ n lv st M r M') : Fr g d μ pc lv (.int x :: st) M r M' := by
  subst hn
  exact fr_br (fun p e s m args below meth c R H locs cells slots ls Q hx hb k1 k2 => lv_if_ne hx hb hd ht k1 (fun h => k2 (not_not_intro h))) k (fun h => k2 (Classical.not_not.mp h))
theorem fr_if_lt {x : Int32} {off : Int} (hd : decode μ.2.1 pc = .ok (.ifCond .lt off, 3)) (ht : (pc : Int) + off = (tgt : Int)) (hn : pc + 3 = n) (k : x < 0 → Fr g d μ tgt lv st M r M') (k2 : ¬ x < 0 → Fr g d μ n lv st M r M') : Fr g d μ pc lv (.int x :: st) M r M' := by
  subst hn
  exact fr_br (fun p e s m args below meth c R H locs cells slots ls Q hx hb k1 k2 => lv_if_lt hx hb hd ht k1 k2) k k2
theorem fr_if_ge {x : Int32} {off : Int} (hd : decode μ.2.1 pc = .ok (.ifCond .ge off, 3)) (ht : (pc : Int) + off = (tgt : Int)) (hn : pc + 3 = n) (k : 0 ≤ x → Fr g d μ tgt lv st M r M') (k2 : ¬ 0 ≤ x → Fr g d μ n lv st M r M') : Fr g d μ pc lv (.int x :: st) M r M' := by
  subst hn
  exact fr_br (fun p e s m args below meth c R H locs cells slots ls Q hx hb k1 k2 => lv_if_ge hx hb hd ht k1 k2) k k2
theorem fr_if_gt {x : Int32} {off : Int} (hd : decode μ.2.1 pc = .ok (.ifCond .gt off, 3)) (ht : (pc : Int) + off = (tgt : Int)) (hn : pc + 3 = n) (k : 0 < x → Fr g d μ tgt lv st M r M') (k2 : ¬ 0 < x → Fr g d μ n lv st M r M') : Fr g d μ pc lv (.int x :: st) M r M' := by
  subst hn
  exact fr_br (fun p e s m args below meth c R H locs cells slots ls Q hx hb k1 k2 => lv_if_gt hx hb hd ht k1 k2) k k2
theorem fr_if_le {x : Int32} {off : Int} (hd : decode μ.2.1 pc = .ok (.ifCond .le off, 3)) (ht : (pc : Int) + off = (tgt : Int)) (hn : pc + 3 = n) (k : x ≤ 0 → Fr g d μ tgt lv st M r M') (k2 : ¬ x ≤ 0 → Fr g d μ n lv st M r M') : Fr g d μ pc lv (.int x :: st) M r M' := by
  subst hn
  exact fr_br (fun p e s m args below meth c R H locs cells slots ls Q hx hb k1 k2 => lv_if_le hx hb hd ht k1 k2) k k2
theorem fr_icmp_eq {x y : Int32} {off : Int} (hd : decode μ.2.1 pc = .ok (.if_icmp .eq off, 3)) (ht : (pc : Int) + off = (tgt : Int)) (hn : pc + 3 = n) (k : x = y → Fr g d μ tgt lv st M r M') (k2 : ¬ x = y → Fr g d μ n lv st M r M') : Fr g d μ pc lv (.int y :: .int x :: st) M r M' := by
  subst hn
  exact fr_br (fun p e s m args below meth c R H locs cells slots ls Q hx hb k1 k2 => lv_icmp_eq hx hb hd ht k1 k2) k k2
theorem fr_icmp_ne {x y : Int32} {off : Int} (hd : decode μ.2.1 pc = .ok (.if_icmp .ne off, 3)) (ht : (pc : Int) + off = (tgt : Int)) (hn : pc + 3 = n) (k : ¬ x = y → Fr g d μ tgt lv st M r M') (k2 : x = y → Fr g d μ n lv st M r M') : Fr g d μ pc lv (.int y :: .int x :: st) M r M' := by
  subst hn
  exact fr_br (fun p e s m args below meth c R H locs cells slots ls Q hx hb k1 k2 => lv_icmp_ne hx hb hd ht k1 (fun h => k2 (not_not_intro h))) k (fun h => k2 (Classical.not_not.mp h))
theorem fr_icmp_lt {x y : Int32} {off : Int} (hd : decode μ.2.1 pc = .ok (.if_icmp .lt off, 3)) (ht : (pc : Int) + off = (tgt : Int)) (hn : pc + 3 = n) (k : x < y → Fr g d μ tgt lv st M r M') (k2 : ¬ x < y → Fr g d μ n lv st M r M') : Fr g d μ pc lv (.int y :: .int x :: st) M r M' := by
  subst hn
  exact fr_br (fun p e s m args below meth c R H locs cells slots ls Q hx hb k1 k2 => lv_icmp_lt hx hb hd ht k1 k2) k k2
theorem fr_icmp_ge {x y : Int32} {off : Int} (hd : decode μ.2.1 pc = .ok (.if_icmp .ge off, 3)) (ht : (pc : Int) + off = (tgt : Int)) (hn : pc + 3 = n) (k : y ≤ x → Fr g d μ tgt lv st M r M') (k2 : ¬ y ≤ x → Fr g d μ n lv st M r M') : Fr g d μ pc lv (.int y :: .int x :: st) M r M' := by
  subst hn
  exact fr_br (fun p e s m args below meth c R H locs cells slots ls Q hx hb k1 k2 => lv_icmp_ge hx hb hd ht k1 k2) k k2
theorem fr_icmp_gt {x y : Int32} {off : Int} (hd : decode μ.2.1 pc = .ok (.if_icmp .gt off, 3)) (ht : (pc : Int) + off = (tgt : Int)) (hn : pc + 3 = n) (k : y < x → Fr g d μ tgt lv st M r M') (k2 : ¬ y < x → Fr g d μ n lv st M r M') : Fr g d μ pc lv (.int y :: .int x :: st) M r M' := by
  subst hn
  exact fr_br (fun p e s m args below meth c R H locs cells slots ls Q hx hb k1 k2 => lv_icmp_gt hx hb hd ht k1 k2) k k2
theorem fr_icmp_le {x y : Int32} {off : Int} (hd : decode μ.2.1 pc = .ok (.if_icmp .le off, 3)) (ht : (pc : Int) + off = (tgt : Int)) (hn : pc + 3 = n) (k : x ≤ y → Fr g d μ tgt lv st M r M') (k2 : ¬ x ≤ y → Fr g d μ n lv st M r M') : Fr g d μ pc lv (.int y :: .int x :: st) M r M' := by
  subst hn
  exact fr_br (fun p e s m args below meth c R H locs cells slots ls Q hx hb k1 k2 => lv_icmp_le hx hb hd ht k1 k2) k k2
theorem fr_goto {off : Int} (hd : decode μ.2.1 pc = .ok (.goto off, 3)) (ht : (pc : Int) + off = (n : Int)) (k : Fr g d μ n lv st M r M') : Fr g d μ pc lv st M r M' :=
  fr_pure (fun p e s m args below meth c R H locs cells slots ls Q hx hb hl hown hts kk => lv_goto hx hb hd ht kk) k
theorem fr_tabOut {dflt lo hi : Int} {offs : Array Int} {len : Nat} {x : Int32} (hd : decode μ.2.1 pc = .ok (.tableswitch dflt lo hi offs, len)) (h : x.toInt < lo ∨ hi < x.toInt) (ht : (pc : Int) + dflt = (n : Int)) (k : Fr g d μ n lv st M r M') : Fr g d μ pc lv (.int x :: st) M r M' :=
  fr_pure (fun p e s m args below meth c R H locs cells slots ls Q hx hb hl hown hts kk => lv_tableOut hx hb hd h ht kk) k
theorem fr_tabIn {dflt lo hi : Int} {offs : Array Int} {len : Nat} {x : Int32} {off : Int} (hd : decode μ.2.1 pc = .ok (.tableswitch dflt lo hi offs, len)) (h1 : ¬ x.toInt < lo) (h2 : ¬ hi < x.toInt) (ho : offs[(x.toInt - lo).toNat]? = some off) (ht : (pc : Int) + off = (n : Int)) (k : Fr g d μ n lv st M r M') : Fr g d μ pc lv (.int x :: st) M r M' :=
  fr_pure (fun p e s m args below meth c R H locs cells slots ls Q hx hb hl hown hts kk => lv_tableIn hx hb hd h1 h2 ho ht kk) k
theorem fr_look {dflt : Int} {ps : Array (Int × Int)} {len : Nat} {x : Int32} {off : Int} (hd : decode μ.2.1 pc = .ok (.lookupswitch dflt ps, len)) (hp : (ps.toList.zip (ps.toList.drop 1)).all (fun (a, next) => a.1 < next.1) = true) (ho : Op.lookupswitch.offset ps.toList dflt x.toInt = off) (ht : (pc : Int) + off = (n : Int)) (k : Fr g d μ n lv st M r M') : Fr g d μ pc lv (.int x :: st) M r M' :=
  fr_pure (fun p e s m args below meth c R H locs cells slots ls Q hx hb hl hown hts kk => lv_lookup hx hb hd hp ho ht kk) k
/-- a number gets a name -/
theorem fr_case {o : Option Nat} (k0 : o = none → Fr g d μ pc lv (.null :: st) M r M') (k1 : ∀ b, o = some b → Fr g d μ pc lv (rf g b :: st) M r M') : Fr g d μ pc lv (rv g o :: st) M r M' := by
  cases o with
  | none => exact k0 rfl
  | some b => exact k1 b rfl
end FR
