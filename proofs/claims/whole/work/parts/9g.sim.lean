/-! the pile reads as the meaning says -/
def Sm0 (K V : Nat → Nat) (lk ei : Bool) (s : MSt) (P : List Nat) (cs : List (Nat × Nat)) (res : PR) : Prop := match res with
  | .inl q => ¬ q.1 = 0 → Fau K V lk ei s q.1 q.2
  | .inr q => ∃ ds, Rch K V lk ei s (whlF (stl 7 P (cs ++ ds)) q.2) ∧ CmN ds q.1
def SmN (K V : Nat → Nat) (lk ei : Bool) (s : MSt) (P : List Nat) (cs : List (Nat × Nat)) (r : Nat) (fo : Nat → Prop) (res : PR) : Prop := match res with
  | .inl q => ¬ q.1 = 0 → Fau K V lk ei s q.1 q.2
  | .inr q => ∃ Q ds, Rch K V lk ei s (Q ++ P, cs ++ ds, true, q.2) ∧ Wai r Q ∧ fo (K q.2) ∧ CmN (ds ++ qcF Q) q.1
def SmB (K V : Nat → Nat) (lk ei : Bool) (s : MSt) (P : List Nat) (cs : List (Nat × Nat)) (r : Nat) (fo : Nat → Prop) (res : PR) : Prop := match res with
  | .inl q => ¬ q.1 = 0 → Fau K V lk ei s q.1 q.2
  | .inr q => ∃ Q ds, Rch K V lk ei s (Q ++ P, cs ++ ds, true, q.2) ∧ Wai r Q ∧ fo (K q.2) ∧ CmB (ds ++ qcF Q) q.1 ∧ blE q.1 ∧ cmpF (Q ++ P) = true
def fo1 (k : Nat) : Prop := ¬ (29 ≤ k ∧ k ≤ 30)
def fo3 (k : Nat) : Prop := ¬ (27 ≤ k ∧ k ≤ 30)
def fo6 (k : Nat) : Prop := ¬ (27 ≤ k ∧ k ≤ 30) ∧ ¬ k = 17
def fo8 (k : Nat) : Prop := ¬ (27 ≤ k ∧ k ≤ 30) ∧ ¬ k = 17 ∧ ¬ k = 16
section AA
variable (K V : Nat → Nat) (lk ei : Bool) (u : Nat)
def nAk (P : List Nat) (i : Nat) : Prop := askF ei P = true → ¬ K i = 18
def A0 : Prop := ∀ (n i : Nat) (a : EF) (P : List Nat) (cs : List (Nat × Nat)), opsF P = n → n ≤ 8 → nAk K ei P i → Sm0 K V lk ei (P, cs, false, i) P cs (prF K V lk u 0 n i a)
def A1 : Prop := ∀ (n i : Nat) (a : EF) (P : List Nat) (cs : List (Nat × Nat)), opsF P = n → n ≤ 8 → nAk K ei P i → lowP 6 P → SmN K V lk ei (P, cs, false, i) P cs 6 fo1 (prF K V lk u 1 n i a)
def A2 : Prop := ∀ (n i : Nat) (a : EF) (P Q : List Nat) (cs ds : List (Nat × Nat)), opsF P = n → n ≤ 8 → lowP 6 P → Wai 6 Q → CmN (ds ++ qcF Q) a → SmN K V lk ei (Q ++ P, cs ++ ds, true, i) P cs 6 fo1 (prF K V lk u 2 n i a)
def A3 : Prop := ∀ (n i : Nat) (a : EF) (P : List Nat) (cs : List (Nat × Nat)), opsF P = n → n ≤ 8 → nAk K ei P i → lowP 5 P → SmN K V lk ei (P, cs, false, i) P cs 5 fo3 (prF K V lk u 3 n i a)
def A4 : Prop := ∀ (n i : Nat) (a : EF) (P Q : List Nat) (cs ds : List (Nat × Nat)), opsF P = n → n ≤ 8 → lowP 5 P → Wai 5 Q → CmN (ds ++ qcF Q) a → fo1 (K i) → SmN K V lk ei (Q ++ P, cs ++ ds, true, i) P cs 5 fo3 (prF K V lk u 4 n i a)
def A5 : Prop := ∀ (n i : Nat) (a : EF) (P : List Nat) (cs : List (Nat × Nat)), opsF P = n → n ≤ 8 → koF ei P = 41 → lowP 4 P → SmB K V lk ei (P, cs, false, i) P cs 3 fo3 (prF K V lk u 5 n i a)
def A6 : Prop := ∀ (n i : Nat) (a : EF) (P : List Nat) (cs : List (Nat × Nat)), opsF P = n → n ≤ 8 → koF ei P = 41 → lowP 2 P → SmB K V lk ei (P, cs, false, i) P cs 2 fo6 (prF K V lk u 6 n i a)
def A7 : Prop := ∀ (n i : Nat) (a : EF) (P Q : List Nat) (cs ds : List (Nat × Nat)), opsF P = n → n ≤ 8 → koF ei P = 41 → lowP 2 P → Wai 2 Q → CmB (ds ++ qcF Q) a → blE a → cmpF (Q ++ P) = true → fo3 (K i) → SmB K V lk ei (Q ++ P, cs ++ ds, true, i) P cs 2 fo6 (prF K V lk u 7 n i a)
def A8 : Prop := ∀ (n i : Nat) (a : EF) (P : List Nat) (cs : List (Nat × Nat)), opsF P = n → n ≤ 8 → koF ei P = 41 → lowP 1 P → SmB K V lk ei (P, cs, false, i) P cs 1 fo8 (prF K V lk u 8 n i a)
def A9 : Prop := ∀ (n i : Nat) (a : EF) (P Q : List Nat) (cs ds : List (Nat × Nat)), opsF P = n → n ≤ 8 → koF ei P = 41 → lowP 1 P → Wai 1 Q → CmB (ds ++ qcF Q) a → blE a → cmpF (Q ++ P) = true → fo6 (K i) → SmB K V lk ei (Q ++ P, cs ++ ds, true, i) P cs 1 fo8 (prF K V lk u 9 n i a)
end AA
section SIM
variable {K V : Nat → Nat} {lk ei : Bool} {u : Nat}
theorem Rch.eq {s s1 s2 : MSt} (h : Rch K V lk ei s s1) (e : s1 = s2) : Rch K V lk ei s s2 := by rw [← e]; exact h
theorem Rch.one {s s1 : MSt} (h : stpF K V lk ei s = .inr (some s1)) : Rch K V lk ei s s1 := Rch.step h (Rch.refl _)
theorem SmN.pre {s s1 : MSt} {P : List Nat} {cs : List (Nat × Nat)} {r : Nat} {fo : Nat → Prop} {res : PR} (h : Rch K V lk ei s s1) (k : SmN K V lk ei s1 P cs r fo res) : SmN K V lk ei s P cs r fo res := by
  cases res with
  | inl q => exact fun z => h.fau (k z)
  | inr q =>
    obtain ⟨Q, ds, a, b⟩ := k
    exact ⟨Q, ds, h.trans a, b⟩
theorem SmB.pre {s s1 : MSt} {P : List Nat} {cs : List (Nat × Nat)} {r : Nat} {fo : Nat → Prop} {res : PR} (h : Rch K V lk ei s s1) (k : SmB K V lk ei s1 P cs r fo res) : SmB K V lk ei s P cs r fo res := by
  cases res with
  | inl q => exact fun z => h.fau (k z)
  | inr q =>
    obtain ⟨Q, ds, a, b⟩ := k
    exact ⟨Q, ds, h.trans a, b⟩
theorem ops_b {o : Nat} {P : List Nat} (h : ¬ (o = 2 ∨ o = 20 ∨ 40 ≤ o)) : opsF (o :: P) = opsF P := by
  unfold opsF; rw [List.filter_cons_of_neg (by rw [decide_eq_false h]; decide)]
theorem ops_u {o : Nat} {P : List Nat} (h : o = 2 ∨ o = 20 ∨ 40 ≤ o) : opsF (o :: P) = opsF P + 1 := by
  unfold opsF; rw [List.filter_cons_of_pos (by rw [decide_eq_true h]), List.length_cons]
theorem ask_of {P : List Nat} (h1 : koF ei P = 41) (h2 : lowP 4 P) : askF ei P = true := by
  unfold askF
  rw [decide_eq_true h1]
  cases P with
  | nil => rfl
  | cons q P =>
    have h2 : rkO q < 4 := h2
    show (true && (decide (q = 41) || decide (1 ≤ rkO q ∧ rkO q ≤ 3))) = true
    by_cases h : 1 ≤ rkO q
    · rw [decide_eq_true (show 1 ≤ rkO q ∧ rkO q ≤ 3 from ⟨h, by omega⟩), Bool.or_true]; rfl
    · have h40 : 40 ≤ q := by
        by_cases z : q < 40
        · exact absurd (rk_0.mpr z) h
        · omega
      have : koF ei (q :: P) = q := by
        unfold koF
        show (match (if 40 ≤ q then some q else mkF P) with | some m => m | none => _) = q
        rw [if_pos h40]
      rw [decide_eq_true (show q = 41 by omega)]; rfl
theorem nak_hi {o i : Nat} {P : List Nat} (h : 4 ≤ rkO o) : nAk K ei (o :: P) i := fun z => by
  unfold askF at z
  have hd : hdA (o :: P) = false := by
    show (decide (o = 41) || decide (1 ≤ rkO o ∧ rkO o ≤ 3)) = false
    rw [decide_eq_false (show ¬ o = 41 from fun e => by rw [e] at h; exact absurd h (by decide)), decide_eq_false (by omega)]; rfl
  rw [hd, Bool.and_false] at z
  cases z
theorem nak_mk {o i : Nat} {P : List Nat} (h : 40 ≤ o) (h2 : o ≠ 41) : nAk K ei (o :: P) i := fun z => by
  unfold askF at z
  have hk : koF ei (o :: P) = o := by
    unfold koF
    show (match (if 40 ≤ o then some o else mkF P) with | some m => m | none => _) = o
    rw [if_pos h]
  rw [hk, decide_eq_false h2] at z
  cases z
theorem ko_mk {o : Nat} {P : List Nat} (h : 40 ≤ o) : koF ei (o :: P) = o := by
  unfold koF
  show (match (if 40 ≤ o then some o else mkF P) with | some m => m | none => _) = o
  rw [if_pos h]
theorem mk_mk {o : Nat} {P : List Nat} (h : 40 ≤ o) : mkF (o :: P) = some o := if_pos h
theorem ko_b {o : Nat} {P : List Nat} (h : o < 40) : koF ei (o :: P) = koF ei P := by
  have e : mkF (o :: P) = mkF P := if_neg (by omega)
  unfold koF; rw [e]
theorem stp_push {o i : Nat} {P : List Nat} {cs : List (Nat × Nat)} (h : begF K V lk ei P cs i = pushF P cs i o) (hn : opsF P < 8) : stpF K V lk ei (P, cs, false, i) = .inr (some (o :: P, cs, false, i + 1)) := by
  show begF K V lk ei P cs i = _
  rw [h]; unfold pushF; rw [if_neg (by omega)]
theorem stp_deep {o i : Nat} {P : List Nat} {cs : List (Nat × Nat)} (h : begF K V lk ei P cs i = pushF P cs i o) (hn : opsF P = 8) : Fau K V lk ei (P, cs, false, i) 3 i := ⟨_, Rch.refl _, rfl, Or.inl (by
  show begF K V lk ei P cs i = _
  rw [h]; unfold pushF; rw [if_pos hn])⟩
/-- behind what an opener holds: closed, or a fault -/
theorem clo_1 {Q P : List Nat} {cs ds : List (Nat × Nat)} {m : Nat} (hw : Wai 1 Q) (hm : 40 ≤ m) : stl 1 (Q ++ m :: P) (cs ++ ds) = (m :: P, cs ++ (ds ++ qcF Q)) := by
  rw [stl_app (r := 1) 1 hw (Nat.le_refl _), stl_low (show lowP 1 (m :: P) from by show rkO m < 1; unfold rkO; rw [if_pos hm]; decide), List.append_assoc]
theorem clo_40 {Q P : List Nat} {cs ds : List (Nat × Nat)} {j : Nat} (hw : Wai 1 Q) (hk : K j = 32) : stpF K V lk ei (Q ++ 40 :: P, cs ++ ds, true, j) = .inr (some (whlF (stl 7 P (cs ++ (ds ++ qcF Q))) (j + 1))) := by
  show Sum.inr (bhF K ei (Q ++ 40 :: P) (cs ++ ds) j) = _
  unfold bhF
  rw [bt_none (by omega) (fun z => by rw [ko_app hw (Nat.le_refl _), ko_mk (by decide)] at z; cases z)]
  show Sum.inr (if _ then _ else _) = _
  rw [if_pos ⟨hk, by rw [mk_app hw (Nat.le_refl _)]; rfl⟩, clo_1 hw (by decide)]; rfl
theorem clo_43 {Q P : List Nat} {cs ds : List (Nat × Nat)} {j : Nat} (hw : Wai 1 Q) (hk : K j = 15) : stpF K V lk ei (Q ++ 43 :: P, cs ++ ds, true, j) = .inr (some (whlF (stl 7 P (cs ++ (ds ++ qcF Q ++ [(23, 0)]))) (j + 1))) := by
  show Sum.inr (bhF K ei (Q ++ 43 :: P) (cs ++ ds) j) = _
  unfold bhF
  rw [bt_none (by omega) (fun z => by rw [ko_app hw (Nat.le_refl _), ko_mk (by decide)] at z; cases z)]
  show Sum.inr (if _ then _ else if _ then _ else _) = _
  rw [if_neg (by omega), if_pos ⟨hk, by rw [mk_app hw (Nat.le_refl _)]; rfl⟩, clo_1 hw (by decide), List.append_assoc cs]; rfl
theorem clo_41 {Q P : List Nat} {cs ds : List (Nat × Nat)} {j : Nat} (hw : Wai 1 Q) (hc : cmpF (Q ++ 41 :: P) = true) (hk : K j = 34) : stpF K V lk ei (Q ++ 41 :: P, cs ++ ds, true, j) = .inr (some (42 :: P, cs ++ (ds ++ qcF Q), false, j + 1)) := by
  show Sum.inr (bhF K ei (Q ++ 41 :: P) (cs ++ ds) j) = _
  unfold bhF
  rw [bt_none (by omega) (fun _ => ⟨fun z => (by rw [hc] at z; cases z), fun _ => by omega⟩)]
  show Sum.inr (if _ then _ else if _ then _ else if _ then _ else _) = _
  rw [if_neg (by omega), if_neg (by omega), if_pos ⟨hk, by rw [mk_app hw (Nat.le_refl _)]; rfl, hc⟩, clo_1 hw (by decide)]; rfl
theorem clo_42 {Q P : List Nat} {cs ds : List (Nat × Nat)} {j : Nat} (hw : Wai 1 Q) (hk : K j = 35) : stpF K V lk ei (Q ++ 42 :: P, cs ++ ds, true, j) = .inr (some (43 :: P, cs ++ (ds ++ qcF Q), false, j + 1)) := by
  show Sum.inr (bhF K ei (Q ++ 42 :: P) (cs ++ ds) j) = _
  unfold bhF
  rw [bt_none (by omega) (fun z => by rw [ko_app hw (Nat.le_refl _), ko_mk (by decide)] at z; cases z)]
  show Sum.inr (if _ then _ else if _ then _ else if _ then _ else if _ then _ else _) = _
  rw [if_neg (by omega), if_neg (by omega), if_neg (by omega), if_pos ⟨hk, by rw [mk_app hw (Nat.le_refl _)]; rfl⟩, clo_1 hw (by decide)]; rfl
/-- the wrong token behind what an opener holds -/
theorem clo_no {Q P : List Nat} {cs ds : List (Nat × Nat)} {j m : Nat} (hw : Wai 1 Q) (hm : 40 ≤ m) (h3 : fo3 (K j)) (h41 : m = 41 → cmpF (Q ++ 41 :: P) = true ∧ ¬ K j = 17 ∧ ¬ K j = 16 ∧ ¬ K j = 34) (h40 : m = 40 → ¬ K j = 32) (h42 : m = 42 → ¬ K j = 35) (h43 : m = 43 → ¬ K j = 15) : Fau K V lk ei (Q ++ m :: P, cs ++ ds, true, j) 1 j := by
  have em : mkF (Q ++ m :: P) = some m := by rw [mk_app hw (Nat.le_refl _)]; exact mk_mk hm
  refine ⟨_, Rch.refl _, rfl, Or.inr ⟨congrArg Sum.inr (bh_none (bt_none h3 (fun z => ?_)) ?_ ?_ ?_ ?_), rfl, Or.inl (by show ¬ mkF (Q ++ m :: P) = none; rw [em]; exact fun z => (by cases z))⟩⟩
  · rw [ko_app hw (Nat.le_refl _), ko_mk hm] at z
    have q := h41 z
    rw [z]
    exact ⟨fun y => (by rw [q.1] at y; cases y), fun _ => ⟨q.2.1, q.2.2.1⟩⟩
  · rw [em]; exact fun z => h40 (Option.some.inj z.2) z.1
  · rw [em]; exact fun z => h43 (Option.some.inj z.2) z.1
  · rw [em]; exact fun z => (h41 (Option.some.inj z.2.1)).2.2.2 z.1
  · rw [em]; exact fun z => h42 (Option.some.inj z.2) z.1
theorem sim_0 (hV : ∀ i, K i = 20 → V i < 11) (a0 : A0 K V lk ei u) (a3 : A3 K V lk ei u) (a8 : A8 K V lk ei u) : A0 K V lk ei (u + 1) := by
  intro n i a P cs ho hn hk
  show Sm0 K V lk ei (P, cs, false, i) P cs (if K i = 19 then _ else if K i = 20 then _ else if K i = 31 then (if n < 8 then _ else _) else if K i = 28 then (if n < 8 then _ else _) else if K i = 14 then (if n < 8 then _ else _) else _)
  by_cases h19 : K i = 19
  · rw [if_pos h19]
    by_cases h9 : 9999 < V i
    · rw [if_pos h9]
      exact fun _ => ⟨_, Rch.refl _, rfl, Or.inl (by show begF K V lk ei P cs i = _; unfold begF; rw [if_pos h19, if_pos h9])⟩
    · rw [if_neg h9]
      exact ⟨[(0, V i)], Rch.one (by show begF K V lk ei P cs i = _; unfold begF; rw [if_pos h19, if_neg h9]), cm_num (by omega)⟩
  rw [if_neg h19]
  by_cases h20 : K i = 20
  · rw [if_pos h20]
    by_cases h9 : decide (6 ≤ V i) = lk
    · rw [if_pos h9]
      exact ⟨[(1, V i)], Rch.one (by show begF K V lk ei P cs i = _; unfold begF; rw [if_neg h19, if_pos h20, if_pos h9]), cm_name (hV i h20)⟩
    · rw [if_neg h9]
      exact fun _ => ⟨_, Rch.refl _, rfl, Or.inl (by show begF K V lk ei P cs i = _; unfold begF; rw [if_neg h19, if_pos h20, if_neg h9])⟩
  rw [if_neg h20]
  by_cases h31 : K i = 31
  · rw [if_pos h31]
    have hb : begF K V lk ei P cs i = pushF P cs i 40 := by unfold begF; rw [if_neg h19, if_neg h20, if_pos h31]
    by_cases h8 : n < 8
    · rw [if_pos h8]
      have st := Rch.one (stp_push hb (by omega))
      have w := a3 (n + 1) (i + 1) a (40 :: P) cs (by rw [ops_u (Or.inr (Or.inr (by decide))), ho]) (by omega) (nak_mk (by decide) (by decide)) (show rkO 40 < 5 by decide)
      cases hx : prF K V lk u 3 (n + 1) (i + 1) a with
      | inl q => rw [hx] at w; rw [bnd_inl rfl]; exact fun z => st.fau (w z)
      | inr q =>
        obtain ⟨f, j⟩ := q
        rw [hx] at w
        obtain ⟨Q, ds, r1, r2, r3, r4⟩ := w
        rw [bnd_inr rfl]
        by_cases q32 : K j = 32
        · rw [if_pos q32]
          exact ⟨ds ++ qcF Q, (st.trans r1).trans (Rch.one (clo_40 (r2.less (by decide)) q32)), r4⟩
        · rw [if_neg q32]
          exact fun _ => (st.trans r1).fau (clo_no (r2.less (by decide)) (by decide) r3 (fun z => absurd z (by decide)) (fun _ => q32) (fun z => absurd z (by decide)) (fun z => absurd z (by decide)))
    · rw [if_neg h8]; exact fun _ => stp_deep hb (by omega)
  rw [if_neg h31]
  by_cases h28 : K i = 28
  · rw [if_pos h28]
    have hb : begF K V lk ei P cs i = pushF P cs i 2 := by unfold begF; rw [if_neg h19, if_neg h20, if_neg h31, if_pos h28]
    by_cases h8 : n < 8
    · rw [if_pos h8]
      have st := Rch.one (stp_push hb (by omega))
      have w := a0 (n + 1) (i + 1) a (2 :: P) cs (by rw [ops_u (Or.inl rfl), ho]) (by omega) (nak_hi (by decide))
      cases hx : prF K V lk u 0 (n + 1) (i + 1) a with
      | inl q => rw [hx] at w; rw [bnd_inl rfl]; exact fun z => st.fau (w z)
      | inr q =>
        obtain ⟨f, j⟩ := q
        rw [hx] at w
        obtain ⟨ds, r1, r4⟩ := w
        rw [bnd_inr rfl]
        refine ⟨ds ++ [(2, 0)], (st.trans r1).eq ?_, cm_neg r4⟩
        show whlF (if 7 ≤ rkO 2 then stl 7 P (cs ++ ds ++ [(2, 0)]) else _) j = whlF (stl 7 P (cs ++ (ds ++ [(2, 0)]))) j
        rw [if_pos (by decide), List.append_assoc]
    · rw [if_neg h8]; exact fun _ => stp_deep hb (by omega)
  rw [if_neg h28]
  by_cases h14 : K i = 14
  · rw [if_pos h14]
    have hb : begF K V lk ei P cs i = pushF P cs i 41 := by unfold begF; rw [if_neg h19, if_neg h20, if_neg h31, if_neg h28, if_pos h14]
    by_cases h8 : n < 8
    case neg => rw [if_neg h8]; exact fun _ => stp_deep hb (by omega)
    rw [if_pos h8]
    have st := Rch.one (stp_push hb (by omega))
    have w := a8 (n + 1) (i + 1) a (41 :: P) cs (by rw [ops_u (Or.inr (Or.inr (by decide))), ho]) (by omega) (ko_mk (by decide)) (show rkO 41 < 1 by decide)
    cases hx : prF K V lk u 8 (n + 1) (i + 1) a with
    | inl q => rw [hx] at w; rw [bnd_inl rfl]; exact fun z => st.fau (w z)
    | inr q =>
    obtain ⟨c, j⟩ := q
    rw [hx] at w
    obtain ⟨Q, ds, r1, r2, r3, r4, r5, r6⟩ := w
    rw [bnd_inr rfl]
    by_cases q34 : K j = 34
    case neg =>
      rw [if_neg q34]
      exact fun _ => (st.trans r1).fau (clo_no r2 (by decide) r3.1 (fun _ => ⟨r6, r3.2.1, r3.2.2, q34⟩) (fun z => absurd z (by decide)) (fun z => absurd z (by decide)) (fun z => absurd z (by decide)))
    rw [if_pos q34]
    have st2 := (st.trans r1).trans (Rch.one (clo_41 r2 r6 q34))
    have w2 := a3 (n + 1) (j + 1) a (42 :: P) (cs ++ (ds ++ qcF Q)) (by rw [ops_u (Or.inr (Or.inr (by decide))), ho]) (by omega) (nak_mk (by decide) (by decide)) (show rkO 42 < 5 by decide)
    cases hy : prF K V lk u 3 (n + 1) (j + 1) a with
    | inl q => rw [hy] at w2; rw [bnd_inl rfl]; exact fun z => st2.fau (w2 z)
    | inr q =>
    obtain ⟨f, k⟩ := q
    rw [hy] at w2
    obtain ⟨Q2, d2, s1, s2, s3, s4⟩ := w2
    rw [bnd_inr rfl]
    by_cases q35 : K k = 35
    case neg =>
      rw [if_neg q35]
      exact fun _ => (st2.trans s1).fau (clo_no (s2.less (by decide)) (by decide) s3 (fun z => absurd z (by decide)) (fun z => absurd z (by decide)) (fun _ => q35) (fun z => absurd z (by decide)))
    rw [if_pos q35]
    have st3 := (st2.trans s1).trans (Rch.one (clo_42 (s2.less (by decide)) q35))
    have w3 := a3 (n + 1) (k + 1) a (43 :: P) (cs ++ (ds ++ qcF Q) ++ (d2 ++ qcF Q2)) (by rw [ops_u (Or.inr (Or.inr (by decide))), ho]) (by omega) (nak_mk (by decide) (by decide)) (show rkO 43 < 5 by decide)
    cases hz : prF K V lk u 3 (n + 1) (k + 1) a with
    | inl q => rw [hz] at w3; rw [bnd_inl rfl]; exact fun z => st3.fau (w3 z)
    | inr q =>
    obtain ⟨e, l⟩ := q
    rw [hz] at w3
    obtain ⟨Q3, d3, t1, t2, t3, t4⟩ := w3
    rw [bnd_inr rfl]
    by_cases q15 : K l = 15
    case neg =>
      rw [if_neg q15]
      exact fun _ => (st3.trans t1).fau (clo_no (t2.less (by decide)) (by decide) t3 (fun z => absurd z (by decide)) (fun z => absurd z (by decide)) (fun z => absurd z (by decide)) (fun _ => q15))
    rw [if_pos q15]
    have st4 := (st3.trans t1).trans (Rch.one (clo_43 (t2.less (by decide)) q15))
    refine ⟨(ds ++ qcF Q) ++ (d2 ++ qcF Q2) ++ (d3 ++ qcF Q3) ++ [(23, 0)], st4.eq ?_, cm_sel r4 s4 t4⟩
    simp only [List.append_assoc]
  rw [if_neg h14]
  refine fun _ => ⟨_, Rch.refl _, rfl, Or.inl ?_⟩
  show begF K V lk ei P cs i = _
  unfold begF
  rw [if_neg h19, if_neg h20, if_neg h31, if_neg h28, if_neg h14, if_neg (fun z => hk z.2 z.1)]
theorem sim_1 (a0 : A0 K V lk ei u) (a2 : A2 K V lk ei u) : A1 K V lk ei (u + 1) := by
  intro n i a P cs ho hn hk hl
  show SmN K V lk ei (P, cs, false, i) P cs 6 fo1 (bnd (prF K V lk u 0 n i a) (fun f j => prF K V lk u 2 n j f))
  have w := a0 n i a P cs ho hn hk
  cases hx : prF K V lk u 0 n i a with
  | inl q => rw [hx] at w; rw [bnd_inl rfl]; exact w
  | inr q =>
    obtain ⟨f, j⟩ := q
    rw [hx] at w
    obtain ⟨ds, r1, r2⟩ := w
    rw [bnd_inr rfl]
    rw [stl_low (hl.up (by decide))] at r1
    exact SmN.pre r1 (a2 n j f P [] cs ds ho hn hl Wai.nil (by show CmN (ds ++ []) f; rw [List.append_nil]; exact r2))
theorem sim_3 (a1 : A1 K V lk ei u) (a4 : A4 K V lk ei u) : A3 K V lk ei (u + 1) := by
  intro n i a P cs ho hn hk hl
  show SmN K V lk ei (P, cs, false, i) P cs 5 fo3 (bnd (prF K V lk u 1 n i a) (fun f j => prF K V lk u 4 n j f))
  have w := a1 n i a P cs ho hn hk (hl.up (by decide))
  cases hx : prF K V lk u 1 n i a with
  | inl q => rw [hx] at w; rw [bnd_inl rfl]; exact w
  | inr q =>
    obtain ⟨f, j⟩ := q
    rw [hx] at w
    obtain ⟨Q, ds, r1, r2, r3, r4⟩ := w
    rw [bnd_inr rfl]
    exact SmN.pre r1 (a4 n j f P Q cs ds ho hn hl (r2.less (by decide)) r4 r3)
theorem sim_6 (a5 : A5 K V lk ei u) (a7 : A7 K V lk ei u) : A6 K V lk ei (u + 1) := by
  intro n i a P cs ho hn hk hl
  show SmB K V lk ei (P, cs, false, i) P cs 2 fo6 (bnd (prF K V lk u 5 n i a) (fun f j => prF K V lk u 7 n j f))
  have w := a5 n i a P cs ho hn hk (hl.up (by decide))
  cases hx : prF K V lk u 5 n i a with
  | inl q => rw [hx] at w; rw [bnd_inl rfl]; exact w
  | inr q =>
    obtain ⟨f, j⟩ := q
    rw [hx] at w
    obtain ⟨Q, ds, r1, r2, r3, r4, r5, r6⟩ := w
    rw [bnd_inr rfl]
    exact SmB.pre r1 (a7 n j f P Q cs ds ho hn hk hl (r2.less (by decide)) r4 r5 r6 r3)
theorem sim_8 (a6 : A6 K V lk ei u) (a9 : A9 K V lk ei u) : A8 K V lk ei (u + 1) := by
  intro n i a P cs ho hn hk hl
  show SmB K V lk ei (P, cs, false, i) P cs 1 fo8 (bnd (prF K V lk u 6 n i a) (fun f j => prF K V lk u 9 n j f))
  have w := a6 n i a P cs ho hn hk (hl.up (by decide))
  cases hx : prF K V lk u 6 n i a with
  | inl q => rw [hx] at w; rw [bnd_inl rfl]; exact w
  | inr q =>
    obtain ⟨f, j⟩ := q
    rw [hx] at w
    obtain ⟨Q, ds, r1, r2, r3, r4, r5, r6⟩ := w
    rw [bnd_inr rfl]
    exact SmB.pre r1 (a9 n j f P Q cs ds ho hn hk hl (r2.less (by decide)) r4 r5 r6 r3)
theorem sim_2 (a0 : A0 K V lk ei u) (a2 : A2 K V lk ei u) : A2 K V lk ei (u + 1) := by
  intro n i a P Q cs ds ho hn hl hw hc
  show SmN K V lk ei (Q ++ P, cs ++ ds, true, i) P cs 6 fo1 (if K i = 29 ∨ K i = 30 then bnd (prF K V lk u 0 n (i + 1) a) (fun e j => prF K V lk u 2 n j (jf (K i) a e)) else .inr (a, i))
  by_cases hop : K i = 29 ∨ K i = 30
  case neg => rw [if_neg hop]; exact ⟨Q, ds, Rch.refl _, hw, by show ¬ (29 ≤ K i ∧ K i ≤ 30); omega, hc⟩
  rw [if_pos hop]
  obtain ⟨o, eo⟩ : ∃ o, o = K i - 24 := ⟨_, rfl⟩
  have o56 : o = 5 ∨ o = 6 := by omega
  have ro : rkO o = 6 := by rcases o56 with rfl | rfl <;> rfl
  have hb : btwF K ei (Q ++ P) i = some o := by
    unfold btwF
    rcases hop with z | z
    · rw [if_neg (by omega), if_neg (by omega), if_pos z, eo, z]
    · rw [if_neg (by omega), if_neg (by omega), if_neg (by omega), if_pos z, eo, z]
  have st : Rch K V lk ei (Q ++ P, cs ++ ds, true, i) (o :: P, cs ++ (ds ++ qcF Q), false, i + 1) := by
    refine Rch.one ((congrArg Sum.inr (bh_op hb)).trans ?_)
    rw [ro, stl_app (r := 6) 6 hw (Nat.le_refl _), stl_low hl, List.append_assoc]
  have w := a0 n (i + 1) a (o :: P) (cs ++ (ds ++ qcF Q)) (by rw [ops_b (by omega), ho]) hn (nak_hi (by omega))
  cases hx : prF K V lk u 0 n (i + 1) a with
  | inl q => rw [hx] at w; rw [bnd_inl rfl]; exact fun z => st.fau (w z)
  | inr q =>
    obtain ⟨e, j⟩ := q
    rw [hx] at w
    obtain ⟨d2, r1, r2⟩ := w
    rw [bnd_inr rfl]
    rw [stl_low (show lowP 7 (o :: P) by show rkO o < 7; omega)] at r1
    have ek : K i = o + 24 := by omega
    refine SmN.pre ((st.trans r1).eq (s2 := ([o] ++ P, cs ++ (ds ++ qcF Q ++ d2), true, j)) ?_) (a2 n j (jf (K i) a e) P [o] cs (ds ++ qcF Q ++ d2) ho hn hl (Wai.one (by omega) (by omega)) ?_)
    · show (o :: P, cs ++ (ds ++ qcF Q) ++ d2, true, j) = (o :: P, cs ++ (ds ++ qcF Q ++ d2), true, j)
      rw [List.append_assoc cs]
    · rw [ek]; exact cm_bin (by omega) (by omega) hc r2
theorem sim_4 (a1 : A1 K V lk ei u) (a4 : A4 K V lk ei u) : A4 K V lk ei (u + 1) := by
  intro n i a P Q cs ds ho hn hl hw hc hf
  show SmN K V lk ei (Q ++ P, cs ++ ds, true, i) P cs 5 fo3 (if K i = 27 ∨ K i = 28 then bnd (prF K V lk u 1 n (i + 1) a) (fun e j => prF K V lk u 4 n j (jf (K i) a e)) else .inr (a, i))
  have hf : ¬ (29 ≤ K i ∧ K i ≤ 30) := hf
  by_cases hop : K i = 27 ∨ K i = 28
  case neg => rw [if_neg hop]; exact ⟨Q, ds, Rch.refl _, hw, by show ¬ (27 ≤ K i ∧ K i ≤ 30); omega, hc⟩
  rw [if_pos hop]
  obtain ⟨o, eo⟩ : ∃ o, o = K i - 24 := ⟨_, rfl⟩
  have o56 : o = 3 ∨ o = 4 := by omega
  have ro : rkO o = 5 := by rcases o56 with rfl | rfl <;> rfl
  have hb : btwF K ei (Q ++ P) i = some o := by
    unfold btwF
    rcases hop with z | z
    · rw [if_pos z, eo, z]
    · rw [if_neg (by omega), if_pos z, eo, z]
  have st : Rch K V lk ei (Q ++ P, cs ++ ds, true, i) (o :: P, cs ++ (ds ++ qcF Q), false, i + 1) := by
    refine Rch.one ((congrArg Sum.inr (bh_op hb)).trans ?_)
    rw [ro, stl_app (r := 5) 5 hw (Nat.le_refl _), stl_low hl, List.append_assoc]
  have w := a1 n (i + 1) a (o :: P) (cs ++ (ds ++ qcF Q)) (by rw [ops_b (by omega), ho]) hn (nak_hi (by omega)) (show rkO o < 6 by omega)
  cases hx : prF K V lk u 1 n (i + 1) a with
  | inl q => rw [hx] at w; rw [bnd_inl rfl]; exact fun z => st.fau (w z)
  | inr q =>
    obtain ⟨e, j⟩ := q
    rw [hx] at w
    obtain ⟨Q2, d2, r1, r2, r3, r4⟩ := w
    rw [bnd_inr rfl]
    have ek : K i = o + 24 := by omega
    refine SmN.pre ((st.trans r1).eq (s2 := ((Q2 ++ [o]) ++ P, cs ++ (ds ++ qcF Q ++ d2), true, j)) ?_) (a4 n j (jf (K i) a e) P (Q2 ++ [o]) cs (ds ++ qcF Q ++ d2) ho hn hl ((r2.less (by decide)).app (Wai.one (by omega) (by omega))) ?_ r3)
    · rw [List.append_assoc cs, List.append_assoc Q2]; rfl
    · rw [ek, qc_app, show ds ++ qcF Q ++ d2 ++ (qcF Q2 ++ qcF [o]) = (ds ++ qcF Q) ++ (d2 ++ qcF Q2) ++ [(o, 0)] by simp only [List.append_assoc]; rfl]
      exact cm_bin (by omega) (by omega) hc r4
theorem sim_7 (ah : A5 K V lk ei u) (al : A7 K V lk ei u) : A7 K V lk ei (u + 1) := by
  intro n i a P Q cs ds ho hn hk hl hw hc hbl hcm hf
  show SmB K V lk ei (Q ++ P, cs ++ ds, true, i) P cs 2 fo6 (if K i = 17 then bnd (prF K V lk u 5 n (i + 1) a) (fun e j => prF K V lk u 7 n j (jf 17 a e)) else .inr (a, i))
  by_cases hop : K i = 17
  case neg => rw [if_neg hop]; exact ⟨Q, ds, Rch.refl _, hw, by show fo6 (K i); unfold fo6; unfold fo3 at hf; omega, hc, hbl, hcm⟩
  rw [if_pos hop]
  have hb : btwF K ei (Q ++ P) i = some 21 := by
    unfold btwF
    rw [if_neg (by omega), if_neg (by omega), if_neg (by omega), if_neg (by omega), if_neg (by rw [ko_app hw (by decide)]; exact fun z => z hk), if_neg (by rw [hcm]; decide), if_pos hop]
  have st : Rch K V lk ei (Q ++ P, cs ++ ds, true, i) (21 :: P, cs ++ (ds ++ qcF Q), false, i + 1) := by
    refine Rch.one ((congrArg Sum.inr (bh_op hb)).trans ?_)
    rw [show rkO 21 = 2 from rfl, stl_app (r := 2) 2 hw (Nat.le_refl _), stl_low hl, List.append_assoc]
  have w := ah n (i + 1) a (21 :: P) (cs ++ (ds ++ qcF Q)) (by rw [ops_b (by decide), ho]) hn (by rw [ko_b (by decide)]; exact hk) (show rkO 21 < 4 by decide)
  cases hx : prF K V lk u 5 n (i + 1) a with
  | inl q => rw [hx] at w; rw [bnd_inl rfl]; exact fun z => st.fau (w z)
  | inr q =>
    obtain ⟨e, j⟩ := q
    rw [hx] at w
    obtain ⟨Q2, d2, r1, r2, r3, r4, r5, r6⟩ := w
    rw [bnd_inr rfl]
    have eq2 : (Q2 ++ [21]) ++ P = Q2 ++ 21 :: P := by rw [List.append_assoc]; rfl
    refine SmB.pre ((st.trans r1).eq (s2 := ((Q2 ++ [21]) ++ P, cs ++ (ds ++ qcF Q ++ d2), true, j)) ?_) (al n j (jf 17 a e) P (Q2 ++ [21]) cs (ds ++ qcF Q ++ d2) ho hn hk hl ((r2.less (by decide)).app (Wai.one (by decide) (by decide))) ?_ (bl_and hbl r5) (by rw [eq2]; exact r6) r3)
    · rw [List.append_assoc cs, eq2]
    · rw [qc_app, show ds ++ qcF Q ++ d2 ++ (qcF Q2 ++ qcF [21]) = (ds ++ qcF Q) ++ (d2 ++ qcF Q2) ++ [(21, 0)] by simp only [List.append_assoc]; rfl]
      exact cm_and hbl r5 hc r4
theorem sim_9 (ah : A6 K V lk ei u) (al : A9 K V lk ei u) : A9 K V lk ei (u + 1) := by
  intro n i a P Q cs ds ho hn hk hl hw hc hbl hcm hf
  show SmB K V lk ei (Q ++ P, cs ++ ds, true, i) P cs 1 fo8 (if K i = 16 then bnd (prF K V lk u 6 n (i + 1) a) (fun e j => prF K V lk u 9 n j (jf 16 a e)) else .inr (a, i))
  by_cases hop : K i = 16
  case neg => rw [if_neg hop]; exact ⟨Q, ds, Rch.refl _, hw, by show fo8 (K i); unfold fo8; unfold fo6 at hf; omega, hc, hbl, hcm⟩
  rw [if_pos hop]
  have hb : btwF K ei (Q ++ P) i = some 22 := by
    unfold btwF
    rw [if_neg (by omega), if_neg (by omega), if_neg (by omega), if_neg (by omega), if_neg (by rw [ko_app hw (by decide)]; exact fun z => z hk), if_neg (by rw [hcm]; decide), if_neg (by omega), if_pos hop]
  have st : Rch K V lk ei (Q ++ P, cs ++ ds, true, i) (22 :: P, cs ++ (ds ++ qcF Q), false, i + 1) := by
    refine Rch.one ((congrArg Sum.inr (bh_op hb)).trans ?_)
    rw [show rkO 22 = 1 from rfl, stl_app (r := 1) 1 hw (Nat.le_refl _), stl_low hl, List.append_assoc]
  have w := ah n (i + 1) a (22 :: P) (cs ++ (ds ++ qcF Q)) (by rw [ops_b (by decide), ho]) hn (by rw [ko_b (by decide)]; exact hk) (show rkO 22 < 2 by decide)
  cases hx : prF K V lk u 6 n (i + 1) a with
  | inl q => rw [hx] at w; rw [bnd_inl rfl]; exact fun z => st.fau (w z)
  | inr q =>
    obtain ⟨e, j⟩ := q
    rw [hx] at w
    obtain ⟨Q2, d2, r1, r2, r3, r4, r5, r6⟩ := w
    rw [bnd_inr rfl]
    have eq2 : (Q2 ++ [22]) ++ P = Q2 ++ 22 :: P := by rw [List.append_assoc]; rfl
    refine SmB.pre ((st.trans r1).eq (s2 := ((Q2 ++ [22]) ++ P, cs ++ (ds ++ qcF Q ++ d2), true, j)) ?_) (al n j (jf 16 a e) P (Q2 ++ [22]) cs (ds ++ qcF Q ++ d2) ho hn hk hl ((r2.less (by decide)).app (Wai.one (by decide) (by decide))) ?_ (bl_or hbl r5) (by rw [eq2]; exact r6) r3)
    · rw [List.append_assoc cs, eq2]
    · rw [qc_app, show ds ++ qcF Q ++ d2 ++ (qcF Q2 ++ qcF [22]) = (ds ++ qcF Q) ++ (d2 ++ qcF Q2) ++ [(22, 0)] by simp only [List.append_assoc]; rfl]
      exact cm_or hbl r5 hc r4
theorem sim_5 (a3 : A3 K V lk ei u) (a5 : A5 K V lk ei u) : A5 K V lk ei (u + 1) := by
  intro n i a P cs ho hn hk hl
  show SmB K V lk ei (P, cs, false, i) P cs 3 fo3 (if K i = 18 then (if n < 8 then bnd (prF K V lk u 5 (n + 1) (i + 1) a) (fun f j => .inr (fun env => if f env = 0 then 1 else 0, j)) else .inl (3, i)) else bnd (prF K V lk u 3 n i a) (fun f j => if 21 ≤ K j ∧ K j ≤ 26 then bnd (prF K V lk u 3 n (j + 1) a) (fun e k => .inr (jf (K j) f e, k)) else .inl (1, j)))
  by_cases h18 : K i = 18
  · rw [if_pos h18]
    have hb : begF K V lk ei P cs i = pushF P cs i 20 := by unfold begF; rw [if_neg (by omega), if_neg (by omega), if_neg (by omega), if_neg (by omega), if_neg (by omega), if_pos ⟨h18, ask_of hk hl⟩]
    by_cases h8 : n < 8
    case neg => rw [if_neg h8]; exact fun _ => stp_deep hb (by omega)
    rw [if_pos h8]
    have st := Rch.one (stp_push hb (by omega))
    have w := a5 (n + 1) (i + 1) a (20 :: P) cs (by rw [ops_u (Or.inr (Or.inl rfl)), ho]) (by omega) (by rw [ko_b (by decide)]; exact hk) (show rkO 20 < 4 by decide)
    cases hx : prF K V lk u 5 (n + 1) (i + 1) a with
    | inl q => rw [hx] at w; rw [bnd_inl rfl]; exact fun z => st.fau (w z)
    | inr q =>
      obtain ⟨f, j⟩ := q
      rw [hx] at w
      obtain ⟨Q, ds, r1, r2, r3, r4, r5, r6⟩ := w
      rw [bnd_inr rfl]
      have eq2 : (Q ++ [20]) ++ P = Q ++ 20 :: P := by rw [List.append_assoc]; rfl
      refine ⟨Q ++ [20], ds, (st.trans r1).eq (by rw [eq2]), r2.app (Wai.one (by decide) (by decide)), r3, ?_, fun env => ?_, by rw [eq2]; exact r6⟩
      · rw [qc_app, ← List.append_assoc]; exact cm_not r4
      · show (if f env = 0 then (1 : Int32) else 0) = 0 ∨ (if f env = 0 then (1 : Int32) else 0) = 1
        by_cases q : f env = 0
        · rw [if_pos q]; exact Or.inr rfl
        · rw [if_neg q]; exact Or.inl rfl
  rw [if_neg h18]
  have cP : cmpF P = false := by
    cases P with
    | nil => rfl
    | cons q P =>
      have hl : rkO q < 4 := hl
      show (if 4 < rkO q then _ else decide (rkO q = 4)) = false
      rw [if_neg (by omega), decide_eq_false (by omega)]
  have w := a3 n i a P cs ho hn (fun _ => h18) (hl.up (by decide))
  cases hx : prF K V lk u 3 n i a with
  | inl q => rw [hx] at w; rw [bnd_inl rfl]; exact w
  | inr q =>
  obtain ⟨f, j⟩ := q
  rw [hx] at w
  obtain ⟨Q, ds, r1, r2, r3, r4⟩ := w
  rw [bnd_inr rfl]
  have r1 : Rch K V lk ei (P, cs, false, i) (Q ++ P, cs ++ ds, true, j) := r1
  have r3 : ¬ (27 ≤ K j ∧ K j ≤ 30) := r3
  have cQ : cmpF (Q ++ P) = false := by rw [cm_app r2 (Nat.le_refl _)]; exact cP
  have kQ : koF ei (Q ++ P) = 41 := by rw [ko_app r2 (by decide)]; exact hk
  by_cases hc : 21 ≤ K j ∧ K j ≤ 26
  case neg =>
    rw [if_neg hc]
    have mk : mkF (Q ++ P) = some 41 ∨ (mkF (Q ++ P) = none ∧ ei = true) := by
      unfold koF at kQ
      cases hm : mkF (Q ++ P) with
      | some m => rw [hm] at kQ; have kQ : m = 41 := kQ; rw [kQ]; exact Or.inl rfl
      | none =>
        rw [hm] at kQ
        have kQ : (if ei = true then 41 else 40) = 41 := kQ
        cases he : ei with
        | true => exact Or.inr ⟨rfl, rfl⟩
        | false => rw [he] at kQ; cases kQ
    refine fun _ => r1.fau ⟨_, Rch.refl _, rfl, Or.inr ⟨congrArg Sum.inr (bh_none (bt_none r3 (fun _ => ⟨fun _ => hc, fun z => (by rw [cQ] at z; cases z)⟩)) ?_ ?_ ?_ ?_), rfl, ?_⟩⟩
    · rcases mk with z | z
      · rw [z]; exact fun y => absurd y.2 (by decide)
      · rw [z.1]; exact fun y => absurd y.2 (by decide)
    · rcases mk with z | z
      · rw [z]; exact fun y => absurd y.2 (by decide)
      · rw [z.1]; exact fun y => absurd y.2 (by decide)
    · rw [cQ]; exact fun y => absurd y.2.2 (by decide)
    · rcases mk with z | z
      · rw [z]; exact fun y => absurd y.2 (by decide)
      · rw [z.1]; exact fun y => absurd y.2 (by decide)
    · rcases mk with z | z
      · exact Or.inl (by show ¬ mkF (Q ++ P) = none; rw [z]; exact fun y => (by cases y))
      · exact Or.inr ⟨z.2, cQ⟩
  rw [if_pos hc]
  obtain ⟨o, eo⟩ : ∃ o, o = K j - 11 := ⟨_, rfl⟩
  have ro : rkO o = 4 := by
    unfold rkO
    rw [if_neg (by omega), if_neg (by omega), if_neg (by omega), if_neg (by omega), if_pos (by omega)]
  have hb : btwF K ei (Q ++ P) j = some o := by
    unfold btwF
    rw [if_neg (by omega), if_neg (by omega), if_neg (by omega), if_neg (by omega), if_neg (fun z => z kQ), if_pos cQ, if_pos hc, eo]
  have st : Rch K V lk ei (P, cs, false, i) (o :: P, cs ++ (ds ++ qcF Q), false, j + 1) := by
    refine r1.trans (Rch.one ((congrArg Sum.inr (bh_op hb)).trans ?_))
    rw [ro, stl_app (r := 5) 4 r2 (by decide), stl_low hl, List.append_assoc]
  have w2 := a3 n (j + 1) a (o :: P) (cs ++ (ds ++ qcF Q)) (by rw [ops_b (by omega), ho]) hn (nak_hi (by omega)) (show rkO o < 5 by omega)
  cases hy : prF K V lk u 3 n (j + 1) a with
  | inl q => rw [hy] at w2; rw [bnd_inl rfl]; exact fun z => st.fau (w2 z)
  | inr q =>
    obtain ⟨e, k⟩ := q
    rw [hy] at w2
    obtain ⟨Q2, d2, s1, s2, s3, s4⟩ := w2
    rw [bnd_inr rfl]
    have eq2 : (Q2 ++ [o]) ++ P = Q2 ++ o :: P := by rw [List.append_assoc]; rfl
    have ek : K j = o + 11 := by omega
    refine ⟨Q2 ++ [o], ds ++ qcF Q ++ d2, (st.trans s1).eq (by rw [eq2, List.append_assoc cs]), (s2.less (by decide)).app (Wai.one (by omega) (by omega)), s3, ?_, bl_cmp hc.1 hc.2 f e, ?_⟩
    · rw [ek, qc_app, show ds ++ qcF Q ++ d2 ++ (qcF Q2 ++ qcF [o]) = (ds ++ qcF Q) ++ (d2 ++ qcF Q2) ++ [(o, 0)] by simp only [List.append_assoc]; rfl]
      exact cm_cmp (by omega) (by omega) r4 s4
    · rw [eq2, cm_app s2 (Nat.le_refl _)]
      show (if 4 < rkO o then _ else decide (rkO o = 4)) = true
      rw [if_neg (by omega), decide_eq_true ro]
theorem sim_all (hV : ∀ i, K i = 20 → V i < 11) : ∀ u, A0 K V lk ei u ∧ A1 K V lk ei u ∧ A2 K V lk ei u ∧ A3 K V lk ei u ∧ A4 K V lk ei u ∧ A5 K V lk ei u ∧ A6 K V lk ei u ∧ A7 K V lk ei u ∧ A8 K V lk ei u ∧ A9 K V lk ei u := by
  intro u
  induction u with
  | zero => exact ⟨fun _ _ _ _ _ _ _ _ z => absurd rfl z, fun _ _ _ _ _ _ _ _ _ z => absurd rfl z, fun _ _ _ _ _ _ _ _ _ _ _ _ z => absurd rfl z, fun _ _ _ _ _ _ _ _ _ z => absurd rfl z, fun _ _ _ _ _ _ _ _ _ _ _ _ _ z => absurd rfl z, fun _ _ _ _ _ _ _ _ _ z => absurd rfl z, fun _ _ _ _ _ _ _ _ _ z => absurd rfl z, fun _ _ _ _ _ _ _ _ _ _ _ _ _ _ _ _ z => absurd rfl z, fun _ _ _ _ _ _ _ _ _ z => absurd rfl z, fun _ _ _ _ _ _ _ _ _ _ _ _ _ _ _ _ z => absurd rfl z⟩
  | succ u ih =>
    obtain ⟨a0, a1, a2, a3, a4, a5, a6, a7, a8, a9⟩ := ih
    exact ⟨sim_0 hV a0 a3 a8, sim_1 a0 a2, sim_2 a0 a2, sim_3 a1 a4, sim_4 a1 a4, sim_5 a3 a5, sim_6 a5 a7, sim_7 a5 a7, sim_8 a6 a9, sim_9 a6 a9⟩
end SIM
