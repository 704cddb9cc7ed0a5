set_option maxHeartbeats 4000000 in
set_option maxRecDepth 100000 in
/-- YOUR PART: from the entry, for every script of at most 3074 ints, the law comes to its end with true -/
theorem whole_start {p : Program} {e : Env} {s : State} {m : MethodId} {below : List Frame} {meth : Method} {c : Code} (l : Launch) {b L : Nat} {xs : Nat → Int32} (hL : L ≤ 3074) (C0 : lw_At p s m meth c b L xs) : W p l e room_1 s m #[Value.ref b] below meth c s.heap [] 0 0 (lw_Z below #[Value.ref b] s) (entryFrame m ([Value.ref b] : List Value).toArray 4) := by
  obtain ⟨hx, hb, hr, hml, hown, hts, hX, hbl, hlocks, hgv⟩ := id C0
  have hTB : ∀ w ∈ TB, w.before #[Value.ref b] s = true := fun w hw => hts w (List.mem_filter.mp hw).1
  obtain ⟨c0, iS0, hKn0⟩ := u_known (C := (RX0)) (T := TX0) (N := 11) (n := 11) hTB uw0 (hts (.instantiable RX0 11) (by decide +kernel))
  obtain ⟨c1, iS1, hKn1⟩ := u_known (C := (RX1)) (T := TX1) (N := 4) (n := 4) hTB uw1 (hts (.instantiable RX1 4) (by decide +kernel))
  obtain ⟨c2, iS2, hKn2⟩ := u_known (C := (RX2)) (T := TX2) (N := 2) (n := 2) hTB uw2 (hts (.instantiable RX2 2) (by decide +kernel))
  obtain ⟨c3, iS3, hKn3⟩ := u_known (C := (RX3)) (T := TX3) (N := 3) (n := 3) hTB uw3 (hts (.instantiable RX3 3) (by decide +kernel))
  obtain ⟨c4, iS4, hKn4⟩ := u_known (C := (RX4)) (T := TX4) (N := 3) (n := 3) hTB uw4 (hts (.instantiable RX4 3) (by decide +kernel))
  obtain ⟨c5, iS5, hKn5⟩ := u_known (C := (RX5)) (T := TX5) (N := 10) (n := 10) hTB uw5 (hts (.instantiable RX5 10) (by decide +kernel))
  obtain ⟨c6, iS6, hKn6⟩ := u_known (C := (RX6)) (T := TX6) (N := 4) (n := 4) hTB uw6 (hts (.instantiable RX6 4) (by decide +kernel))
  obtain ⟨c7, iS7, hKn7⟩ := u_known (C := (RX7)) (T := TX7) (N := 8) (n := 8) hTB uw7 (hts (.instantiable RX7 8) (by decide +kernel))
  obtain ⟨c8, iS8, hKn8⟩ := u_known (C := (RX8)) (T := TX8) (N := 15) (n := 15) hTB uw8 (hts (.instantiable RX8 15) (by decide +kernel))
  obtain ⟨c9, iS9, hKn9⟩ := u_known (C := (RX9)) (T := TX9) (N := 3) (n := 3) hTB uw9 (hts (.instantiable RX9 3) (by decide +kernel))
  obtain ⟨c10, iS10, hKn10⟩ := u_known (C := (RX10)) (T := TX10) (N := 9) (n := 9) hTB uw10 (hts (.instantiable RX10 9) (by decide +kernel))
  obtain ⟨c11, iS11, hKn11⟩ := u_known (C := (RX11)) (T := TX11) (N := 14) (n := 14) hTB uw11 (hts (.instantiable RX11 14) (by decide +kernel))
  obtain ⟨c12, iS12, hKn12⟩ := u_known (C := (RX12)) (T := TX12) (N := 43) (n := 43) hTB uw12 (hts (.instantiable RX12 43) (by decide +kernel))
  obtain ⟨dC, dI, hKc⟩ : ∃ (dC : Nat → ClassId) (dI : Nat → Nat → Nat), ∀ (k : Nat) (q : vw_C), vwCl[k]? = some q → u_Kn s q.1 q.2.1 q.2.2 (dC k) (dI k) := by
    refine ⟨fun k => if k = 0 then c0 else if k = 1 then c1 else if k = 2 then c2 else if k = 3 then c3 else if k = 4 then c4 else if k = 5 then c5 else if k = 6 then c6 else if k = 7 then c7 else if k = 8 then c8 else if k = 9 then c9 else if k = 10 then c10 else if k = 11 then c11 else c12, fun k => if k = 0 then iS0 else if k = 1 then iS1 else if k = 2 then iS2 else if k = 3 then iS3 else if k = 4 then iS4 else if k = 5 then iS5 else if k = 6 then iS6 else if k = 7 then iS7 else if k = 8 then iS8 else if k = 9 then iS9 else if k = 10 then iS10 else if k = 11 then iS11 else iS12, ?_⟩
    intro k q hq
    match k, hq with
    | 0, hq => cases hq; exact hKn0
    | 1, hq => cases hq; exact hKn1
    | 2, hq => cases hq; exact hKn2
    | 3, hq => cases hq; exact hKn3
    | 4, hq => cases hq; exact hKn4
    | 5, hq => cases hq; exact hKn5
    | 6, hq => cases hq; exact hKn6
    | 7, hq => cases hq; exact hKn7
    | 8, hq => cases hq; exact hKn8
    | 9, hq => cases hq; exact hKn9
    | 10, hq => cases hq; exact hKn10
    | 11, hq => cases hq; exact hKn11
    | 12, hq => cases hq; exact hKn12
    | k + 13, hq => simp at hq
  obtain ⟨a0, a01, a02⟩ := ar_known (ty := .int) (fun C => by simp) (hts (.arrayClass .int) (by decide +kernel))
  obtain ⟨a1, a11, a12⟩ := ar_known (ty := .long) (fun C => by simp) (hts (.arrayClass .long) (by decide +kernel))
  obtain ⟨a2, a21, a22⟩ := ar_known (ty := .boolean) (fun C => by simp) (hts (.arrayClass .boolean) (by decide +kernel))
  obtain ⟨a3, a31, a32⟩ := ao_known (C := RX6) (hts (.arrayOver (.object RX6)) (by decide +kernel))
  obtain ⟨adK, adV, hSK⟩ := sk_start (A := fun q => s.heap.size ≤ q) hts hgv (fun a ha h => absurd h (Nat.not_le.mpr ha))
  obtain ⟨g, hg⟩ : ∃ g : GE, g = (l, (dC, dI), (fun k => if k = 0 then a0 else if k = 1 then a1 else if k = 2 then a2 else a3), s.heap.size, adK, adV) := ⟨_, rfl⟩
  have gl1 : gl g = l := by rw [hg]; rfl
  have gb1 : gb g = s.heap.size := by rw [hg]; rfl
  have hK : va_K (gD g) vwCl (tyL g) s := by
    refine ⟨by rw [hg]; exact hKc, fun k q hk => ?_⟩
    rw [hg] at hk
    match k, hk with
    | 0, hk => cases hk; exact ⟨a01, a02⟩
    | 1, hk => cases hk; exact ⟨a11, a12⟩
    | 2, hk => cases hk; exact ⟨a21, a22⟩
    | 3, hk => cases hk; exact ⟨a31, a32⟩
    | k + 4, hk => simp [tyL] at hk
  have hSKg : SK g s := by rw [hg]; exact hSK
  have C : LCw g p s m meth c b L xs := ⟨hx, hb, hml, hown, hTB, hr, hlocks, hX, hbl, gb1.symm, hK, hSKg⟩
  obtain ⟨w, h, Mx, Z, I, L1, cx1, hx76, cm, hj, p1, p2⟩ := jv_start (g := g) (if 0 < L then xs 0 else 0) (if 1 < L then xs 1 else 0)
  have rc := rm_cells
  have rs := rm_slots
  have e1 := px_le Z
  have m1 := cm.1.1
  have m2 := cm.1.2.1
  have mxZ : mx (Z, I, L1) ≤ 113 := Nat.le_trans e1.1 p1
  have msZ : ms (Z, I, L1) ≤ 200000 := Nat.le_trans e1.2 p2
  have mxW : mx (nwD Mx 12 43) = mx Mx + 1 := rfl
  have msW : ms (nwD Mx 12 43) = ms Mx + 43 := rfl
  have xb1 : mx Mx ≤ room_1.cells := by omega
  have xb2 : ms Mx ≤ room_1.slots := by omega
  have key : Lw g p e s m below meth c b 0 [(0, .ref b)] [] M0z := by
    refine lw_new C dL_law_0 rfl nl_L_7 (Nat.le_trans (m := 5000) (by decide) rm_cells) (Nat.le_trans (m := 1000000) (by decide) rm_slots) ?_
    show Lw g p e s m below meth c b 3 [(0, .ref b)] [rf g 0] (nwD M0z 11 14)
    refine lw_dup C rfl dL_law_3 rfl ?_
    refine lw_aload_n C (i := 0) (q := 0) rfl dL_law_4 rfl ?_
    refine lw_iconst C (v := nI 0) (by decide) dL_law_5 rfl ?_
    refine lw_cell C (k := 0) (by decide) (by omega) (Nat.le_trans (m := 5000) (by decide) rm_cells) (Nat.le_trans (m := 1000000) (by decide) rm_slots) dL_law_6 rfl (Nat.le_of_ble_eq_true rfl) ?_
    refine lw_aload_n C (i := 0) (q := 0) rfl dL_law_9 rfl ?_
    refine lw_iconst C (v := nI 1) (by decide) dL_law_10 rfl ?_
    refine lw_cell C (k := 1) (by decide) (by omega) (Nat.le_trans (m := 5000) (by decide) rm_cells) (Nat.le_trans (m := 1000000) (by decide) rm_slots) dL_law_11 rfl (Nat.le_of_ble_eq_true rfl) ?_
    refine lw_callI C (ν := mu_X11_init) (a := 0) (As := [.int (if 0 < L then xs 0 else 0), .int (if 1 < L then xs 1 else 0)]) (st := [rf g 0]) rfl rfl dL_law_14 rfl ml_L_15 mo_X11_init mn_X11_init (by decide) rfl rfl (Nat.le_of_ble_eq_true rfl) cx1 xb1 xb2 ?_
    refine lw_astore_n C (i := 1) (lv' := [(1, rf g 0), (0, .ref b)]) dL_law_17 rfl (by decide) rfl ?_
    refine lw_new C dL_law_18 rfl nl_L_18 (by omega) (by omega) ?_
    rw [hx76]
    show Lw g p e s m below meth c b 21 [(1, rf g 0), (0, .ref b)] [rf g 76] (nwD Mx 12 43)
    have yb1 : mx (nwD Mx 12 43) ≤ room_1.cells := by omega
    have yb2 : ms (nwD Mx 12 43) ≤ room_1.slots := by omega
    refine lw_dup C rfl dL_law_21 rfl ?_
    refine lw_aload_n C (i := 0) (q := 1) rfl dL_law_22 rfl ?_
    refine lw_iconst C (v := nI 0) (by decide) dL_law_23 rfl ?_
    refine lw_cell C (k := 0) (by decide) (by omega) yb1 yb2 dL_law_24 rfl (Nat.le_of_ble_eq_true rfl) ?_
    refine lw_aload_n C (i := 0) (q := 1) rfl dL_law_27 rfl ?_
    refine lw_iconst C (v := nI 1) (by decide) dL_law_28 rfl ?_
    refine lw_cell C (k := 1) (by decide) (by omega) yb1 yb2 dL_law_29 rfl (Nat.le_of_ble_eq_true rfl) ?_
    refine lw_callI C (ν := mu_X12_init) (a := 76) (As := [.int (if 0 < L then xs 0 else 0), .int (if 1 < L then xs 1 else 0)]) (st := [rf g 76]) rfl rfl dL_law_32 rfl ml_L_20 mo_X12_init mn_X12_init (by decide) rfl rfl (Nat.le_of_ble_eq_true rfl) cm (by omega) (by omega) ?_
    refine lw_astore_n C (i := 2) (lv' := [(2, rf g 76), (1, rf g 0), (0, .ref b)]) dL_law_35 rfl (by decide) rfl ?_
    refine lw_iconst C (v := nI 2) (by decide) dL_law_36 rfl ?_
    refine lw_istore_n C (i := 3) (lv' := lvL g b 2) dL_law_37 rfl (by decide) rfl ?_
    exact law_loop C hL 513 2 (Z, I, L1) (by omega) (by decide) ⟨_, _, _, _, _, _, hj⟩ (by show pxZ Z + 2 * 513 ≤ room_1.cells; omega) (by show psZ Z + 604 * 513 ≤ room_1.slots; omega)
  have hl := lv_entry ([.ref b]) (n := 4) (Nat.le_of_ble_eq_true rfl)
  rw [lg_entry_eq]
  generalize (lg_sl ([.ref b]) ++ List.replicate (4 - (lg_sl ([.ref b])).length) Slot.unset).toArray = ls at hl ⊢
  have hl : lv_has ls 4 [(0, .ref b)] := hl
  have fin := key s.heap [] 0 0 ls ⟨rfl, rfl, fun k q h => (by have h' : ([] : va_W)[k]? = some q := h; simp at h'), va_S.rf⟩ hl
  rw [gl1] at fin
  exact fin
set_option maxHeartbeats 4000000 in
theorem lw_walk (l : Launch) (b : Addr) (xs : List Int32) : MetFree l x (headSpec (Jvm.Cond.code x code maxLocals ret :: tables_1) room_1) (lw_P b xs) (fun _ _ _ _ _ => True) lw_Q := by
  refine MetFree.of_bodyS (code := code) (maxLocals := maxLocals) (ret := ret) (by decide) ?_ ?_
  · intro args s m h hn
    obtain ⟨meth, c, h1, h2, h3, h4, h5, h6, -, -⟩ := Cond.code_spec hn (atoms_spec (ws := Jvm.Cond.code x code maxLocals ret :: tables_1) h _ List.mem_cons_self)
    exact ⟨meth, c, h1, h2, h3, h4, h5, h6⟩
  · intro p e s m args below meth c s₁ B hml0 hP _
    obtain ⟨rfl, hx, hbd, hgv⟩ := hP
    obtain ⟨scr, harrAt, hlist, hof, hsmall⟩ := hx
    obtain ⟨hcb, hkn, -, -⟩ := State.arrayAt?_spec harrAt
    have hown : s.vm.findClass R_law = some m.cls := findClass_of_methodNamed B.named
    have hts0 : ∀ c ∈ (Jvm.Cond.code x code maxLocals ret :: tables_1), c.before #[Value.ref b] s = true := atoms_spec (ws := Jvm.Cond.code x code maxLocals ret :: tables_1) B.pre
    have hts : ∀ w ∈ lw_tbl, w.before #[Value.ref b] s = true := k2_hts_sels lw_privs (fun w hw => hts0 w (List.mem_cons_of_mem _ hw)) lw_privs_ok
    have hml : c.maxLocals = 4 := B.maxLocals_eq (hts0 _ List.mem_cons_self)
    have X₀ : Stand p l e room_1 s m #[Value.ref b] below meth c s₁ [] 0 0 := Stand.of_body B
    have hh0 : s₁.heap = s.heap := by rw [B.state]; rfl
    have hsz : scr.slots.size = xs.length := by rw [← Array.length_toList, hlist, List.length_map]
    have hval : ∀ j : Nat, j < xs.length → scr.slots[j]? = some (.int (xs.getD j 0)) := fun j hj => by
      rw [← Array.getElem?_toList, hlist]
      simp [hj]
    have hbl : b < s.heap.size := (Array.getElem?_eq_some_iff.mp hcb).1
    have hX : va_X b xs.length (fun j => xs.getD j 0) s s.heap := ⟨scr, hcb, hof, hkn, hsz, hval⟩
    have K : W p l e room_1 s m #[Value.ref b] below meth c s₁.heap [] 0 0 (lw_Z below #[Value.ref b] s) (entryFrame m ([Value.ref b] : List Value).toArray 4) := by
      rw [hh0]
      exact whole_start l hbd ⟨B.exec, B.bytes, B.returns, hml, hown, hts, hX, hbl, B.notSynchronized, hgv⟩
    obtain ⟨t, a1, o, b1, b2, b3⟩ := K s₁ rfl X₀
    exact ⟨t, o, a1, b1, b2, b3⟩
theorem lw_pre_spec {args : Array Value} {s : State} (h : (Jvm.Cond.and given_1 narrow_1).before args s = true) (hr : rest_1_c.before args s = true) : ∃ (b : Addr) (xs : List Int32), lw_P b xs args s := by
  have hs := flat_of_before _ h
  have hq := flat_of_before _ hr
  have hc : (Cond.count 1).before args s = true := hs _ (by decide +kernel)
  have harr : (Cond.arrayOf (.arg 0) .int).before args s = true := hs _ (by decide +kernel)
  have hle : (Cond.le (.length (.arg 0)) (.int 3074)).before args s = true := hs _ (by decide +kernel)
  have hlen : (Cond.isInt (.length (.arg 0))).before args s = true := hq _ (by decide +kernel)
  have hall : (Cond.all (.arg 0) (.isInt (.elem (.arg 0) (.index 0)))).before args s = true := hq _ (by decide +kernel)
  obtain ⟨b, xs, hb, hx⟩ := State.ints_of_pre rfl harr hlen hall
  have hsm : xs.length < 2 ^ 31 := hx.choose_spec.2.2.2
  have hev : (Term.length (.arg 0)).eval args s none [] s = some (.int xs.length.toInt32) := hx.length_eval hb
  have hv := Cond.le_ints hev (show (Term.int 3074).eval args s none [] s = some (.int 3074) from rfl)
  have hd : xs.length.toInt32 ≤ 3074 := by
    simpa [Cond.before, Cond.holds, hv] using hle
  have hN : xs.length ≤ 3074 := (Int32.ofNat_le_ofNat hsm (by decide)).mp (show Int32.ofNat xs.length ≤ Int32.ofNat 3074 from hd)
  exact ⟨b, xs, Cond.one_arg hc (show args[0]? = some (.ref b) from hb), hx, hN, h⟩
theorem lw_comes (l : Launch) : Comes l x (Jvm.Cond.code x code maxLocals ret :: tables_1) room_1 (fun tb e args s => Calls_1 tb e args s ∧ rest_1 tb e args s ∧ Pre_1 tb e args s)
    (fun _ _ args s o t => lw_Q args s o t) := by
  intro p e ha hc hk s m args below hf hfit hheap happ hpre
  obtain ⟨b, xs, hP⟩ := lw_pre_spec hpre.2.2 hpre.2.1
  obtain ⟨k, o, h1, h2, h3, hQ⟩ := lw_walk l b xs p e ha hc hk s m args below hf ((Spec.applies_iff_loose hf).mp happ).1 hP trivial
  exact ⟨k, o, h1, h2, h3, hQ⟩
theorem lw_frame {s t : State} {o : Outcome} {args : Array Value} (h : Framed s o t [] room_1.cells room_1.slots) :
    Framed s o t (fieldLocs frame_1_writes args s ++ arrayLocs frame_1_arrays args s ++ staticLocs frame_1_statics s) room_1.cells room_1.slots := h
theorem lw_limb (L : Cond) (hL : ∀ (args : Array Value) (s t : State), L.after args s (.returned (some (.int 1))) t = true) :
    ArmFor flags0 classFile x code maxLocals ret World_1 tables_1 room_1 Calls_1 rest_1 Pre_1
      (fun tb e a s o t => postC L tb e a s o t ∧ Framed s o t (fieldLocs frame_1_writes a s ++ arrayLocs frame_1_arrays a s ++ staticLocs frame_1_statics s) room_1.cells room_1.slots) := by
  intro l _ _ _ p e ha hc hk s m args below hf hfit hheap happ hpre
  obtain ⟨k, o, h1, h2, h3, rfl, hF⟩ := lw_comes l p e ha hc hk s m args below hf hfit hheap happ hpre
  exact ⟨k, _, h1, h2, h3, hL args s _, lw_frame hF⟩
theorem i_vc : Claimed_1_1 ∧ Claimed_1_2 := ⟨lw_limb limb_1_1 (fun args s t => by simp [limb_1_1, Cond.after, Cond.holds, Cond.value]), lw_limb limb_1_2 (fun args s t => Cond.after_iff.mpr (by
  first | (rw [show limb_1_2 = Cond.eq .result (.int 1) from rfl, Cond.eq_ints (x := 1) (y := 1) rfl rfl]; simp; done) | (simp [limb_1_2, Cond.value, Term.eval]; done)))⟩
