/-! the model's current token; its words and signs -/
def MTk (I : Nat → Nat → Int32) (L : Nat → Nat → Int64) (tp : List Nat) (ts : List (Nat × Nat × Nat)) (i : Nat) : Prop := I 76 10 = nI (pT ts i) ∧ TokM I L (kT ts i) (vT ts i) ∧ (¬ kT ts i = 37 → ∃ k p, ts.drop (i + 1) = scF tp k p ∧ tp.length ≤ k + p ∧ p ≤ tp.length ∧ I 76 9 = nI p)
theorem sg_21 : ∀ c, c < 64 → (21 ≤ sgnF c) := by decide
theorem tk_11 (tp : List Nat) (p : Nat) : 11 ≤ (tkF tp p).1 := by
  unfold tkF
  by_cases h1 : isLt (tp.getD p 0) = true
  · rw [if_pos h1]
    have := (wd_iff ((tp.drop p).take (runF isLt tp 300 p - p))).1
    have t : ∀ w, w < 20 → 11 ≤ wkF w := by decide
    exact t _ (by omega)
  · rw [if_neg h1]
    by_cases h2 : isDg (tp.getD p 0) = true
    · rw [if_pos h2]; show 11 ≤ 19; decide
    · rw [if_neg h2]
      have : 21 ≤ sgnF (tp.getD p 0) := by
        by_cases hc : tp.getD p 0 < 64
        · exact sg_21 _ hc
        · rw [sgn_hi (by omega)]; decide
      split
      · show 11 ≤ sgnF _ + 1; omega
      · show 11 ≤ sgnF _; omega
theorem scF_11 (tp : List Nat) : ∀ (k p : Nat), ∀ q ∈ scF tp k p, 11 ≤ q.1 := by
  have base : ∀ q ∈ [((37 : Nat), tp.length, (0 : Nat))], 11 ≤ q.1 := fun q hq => by
    rw [List.mem_singleton] at hq; rw [hq]; show 11 ≤ 37; decide
  intro k
  induction k with
  | zero => intro p; exact base
  | succ k ih =>
    intro p q hq
    have es : scF tp (k + 1) p = (if tp.length ≤ p then [(37, tp.length, 0)] else if tp.getD p 0 = 32 ∨ tp.getD p 0 = 10 then scF tp k (p + 1) else ((tkF tp p).1, p, (tkF tp p).2.1) :: scF tp k (tkF tp p).2.2) := rfl
    rw [es] at hq
    by_cases h1 : tp.length ≤ p
    · rw [if_pos h1] at hq; exact base q hq
    rw [if_neg h1] at hq
    by_cases h2 : tp.getD p 0 = 32 ∨ tp.getD p 0 = 10
    · rw [if_pos h2] at hq; exact ih (p + 1) q hq
    rw [if_neg h2] at hq
    rcases List.mem_cons.mp hq with rfl | hq
    · exact tk_11 tp p
    · exact ih _ q hq
theorem ts_11 (tp : List Nat) (i : Nat) : 11 ≤ kT (tkL tp) i := by
  unfold kT
  rw [List.getD_eq_getElem?_getD]
  cases hx : (tkL tp)[i]? with
  | none => show 11 ≤ 37; decide
  | some q => exact scF_11 tp 300 0 q (List.mem_of_getElem? hx)
section MWORD
variable {g : GE} {Z : Zs} {I : Nat → Nat → Int32} {L : Nat → Nat → Int64} {tp : List Nat} {ts : List (Nat × Nat × Nat)} {i k v : Nat}
theorem nt_tk {k p : Nat} {I1 : Nat → Nat → Int32} {L1 : Nat → Nat → Int64} (h : NTz tp k p I1 L1) {j : Nat} (hd : ts.drop j = scF tp k p) : MTk I1 L1 tp ts j ∧ j < ts.length := by
  obtain ⟨kd, q, vl, rest, e1, e2, e3, e4⟩ := h
  rw [e1] at hd
  have hj : ts[j]? = some (kd, q, vl) := by
    have := congrArg (fun l => l[0]?) hd
    simp only [List.getElem?_drop, List.getElem?_cons_zero, Nat.add_zero] at this
    exact this
  have hg : ts.getD j (37, 0, 0) = (kd, q, vl) := by rw [List.getD_eq_getElem?_getD, hj]; rfl
  have hr : ts.drop (j + 1) = rest := by
    have := congrArg (List.drop 1) hd
    rw [List.drop_drop] at this
    exact this
  have ek : kT ts j = kd := by unfold kT; rw [hg]
  have ep : pT ts j = q := by unfold pT; rw [hg]
  have ev : vT ts j = vl := by unfold vT; rw [hg]
  refine ⟨⟨by rw [ep]; exact e2, by rw [ek, ev]; exact e3, fun hn => ?_⟩, (List.getElem?_eq_some_iff.mp hj).1⟩
  rw [ek] at hn
  rcases e4 with z | z
  · exact absurd z.1 hn
  · obtain ⟨-, k2, p2, a, b⟩ := z
    exact ⟨k2, p2, by rw [hr]; exact a, b⟩
theorem mp_next (hS : Sh Z) (h8 : T8 tp) (hT : MT I tp) (h : MTk I L tp ts i) (hk : ¬ kT ts i = 37) : ∃ I1 L1, Cl g 3 mu_X12_nextToken [rf g 76] (Z, I, L) none (Z, I1, L1) ∧ NFz I I1 ∧ MTk I1 L1 tp ts (i + 1) ∧ i + 1 < ts.length := by
  obtain ⟨k, p, a, b, c, d⟩ := h.2.2 hk
  obtain ⟨I1, L1, e, f, n⟩ := nt_0 (g := g) (L := L) hS h8 k p I b c hT d
  obtain ⟨m1, m2⟩ := nt_tk n a
  exact ⟨I1, L1, cp_X12_nextToken (hS.k 76 12 (by decide) (by decide)) e, f, m1, m2⟩
theorem mp_first (hS : Sh Z) (h8 : T8 tp) (hT : MT I tp) (h9 : I 76 9 = 0) : ∃ I1 L1, Cl g 3 mu_X12_nextToken [rf g 76] (Z, I, L) none (Z, I1, L1) ∧ NFz I I1 ∧ MTk I1 L1 tp (tkL tp) 0 := by
  obtain ⟨I1, L1, e, f, n⟩ := nt_0 (g := g) (L := L) hS h8 300 0 I (by have := hT.2.1; omega) (Nat.zero_le _) hT h9
  obtain ⟨m1, m2⟩ := nt_tk (ts := tkL tp) (j := 0) n rfl
  exact ⟨I1, L1, cp_X12_nextToken (hS.k 76 12 (by decide) (by decide)) e, f, m1⟩
theorem tk_eq (h : TokM I L k v) (hk : k < 38) {x c : Nat} (hx : x < 100) (h2 : ¬ x = 2 ∧ ¬ x = 3 ∧ ¬ x = 44) (hc : ¬ c = 36) (tab : ∀ k, k < 38 → ¬ k = 36 → (tcL.getD k 0 = x ↔ k = c)) : I 76 11 = nI x ↔ k = c := by
  obtain ⟨t, a1, a2, a3, a4, -⟩ := h
  rw [a1, nI_eq (by omega) (by omega)]
  by_cases h36 : k = 36
  · have := a4 h36
    omega
  · rw [a3 h36]; exact tab k hk h36
/-- is it the word w? -/
theorem tk_w (h : TokM I L k v) (hk : k < 38) {w : Nat} (hw : w < 19) : (I 76 11 = 2 → (L 76 13 = wC w ↔ wxF k v = w)) ∧ (¬ I 76 11 = 2 → ¬ wxF k v = w) := by
  obtain ⟨t, a1, a2, a3, a4, -, a6⟩ := h
  have e2 : I 76 11 = 2 ↔ t = 2 := by rw [a1]; exact nI_eq (b := 2) (by omega) (by decide)
  refine ⟨fun z => a6 (e2.mp z) w hw, fun z => ?_⟩
  have z2 : ¬ t = 2 := fun y => z (e2.mpr y)
  have t1 : ∀ k, k < 38 → (tcL.getD k 0 = 2 ∨ k = 19 ∨ 21 ≤ k) := by decide
  rcases t1 k hk with y | y | y
  · by_cases h36 : k = 36
    · unfold wxF; rw [if_neg (by omega)]; omega
    · exact absurd ((a3 h36).trans y) z2
  · unfold wxF; rw [if_neg (by omega)]; omega
  · unfold wxF; rw [if_neg (by omega)]; omega
theorem mp_isWord (hS : Sh Z) (h : TokM I L k v) (hk : k < 38) {w : Nat} (hw : w < 19) : Cl g 1 mu_X12_isWord [rf g 76, .long (wC w)] (Z, I, L) (some (.int (b2i (decide (wxF k v = w))))) (Z, I, L) := by
  obtain ⟨a, b⟩ := tk_w h hk hw
  refine cp_X12_isWord (hS.k 76 12 (by decide) (by decide)) ⟨fun z => ⟨?_, rfl⟩, fun z => ⟨fun y => ⟨?_, rfl⟩, fun y => ⟨?_, rfl⟩⟩⟩
  · rw [decide_eq_false (b z)]; rfl
  · rw [lg_cmp_eq] at y
    rw [decide_eq_false (fun x => y ((a z).mpr x))]; rfl
  · rw [lg_cmp_eq] at y
    rw [decide_eq_true ((a z).mp y)]; rfl
theorem w3_c (w : Nat) {x y z : Int32} (h : ((((x.toInt64 <<< ((8 : Int32).toInt64 &&& 63)) ||| y.toInt64) <<< ((8 : Int32).toInt64 &&& 63)) ||| z.toInt64) = wC w) : Cl g 1 mu_X12_w3 [.int x, .int y, .int z] (Z, I, L) (some (.long (wC w))) (Z, I, L) := cp_X12_w3 ⟨by rw [h], rfl⟩
theorem w4_c (w : Nat) {x y z u : Int32} (h : ((((((x.toInt64 <<< ((8 : Int32).toInt64 &&& 63)) ||| y.toInt64) <<< ((8 : Int32).toInt64 &&& 63)) ||| z.toInt64) <<< ((8 : Int32).toInt64 &&& 63)) ||| u.toInt64) = wC w) : Cl g 2 mu_X12_w4 [.int x, .int y, .int z, .int u] (Z, I, L) (some (.long (wC w))) (Z, I, L) := cp_X12_w4 ⟨_, cp_X12_w3 ⟨rfl, rfl⟩, by rw [h], rfl⟩
theorem w5_c (w : Nat) {x y z u s : Int32} (h : ((((((((x.toInt64 <<< ((8 : Int32).toInt64 &&& 63)) ||| y.toInt64) <<< ((8 : Int32).toInt64 &&& 63)) ||| z.toInt64) <<< ((8 : Int32).toInt64 &&& 63)) ||| u.toInt64) <<< ((8 : Int32).toInt64 &&& 63)) ||| s.toInt64) = wC w) : Cl g 2 mu_X12_w5 [.int x, .int y, .int z, .int u, .int s] (Z, I, L) (some (.long (wC w))) (Z, I, L) := cp_X12_w5 ⟨_, cp_X12_w3 ⟨rfl, rfl⟩, by rw [h], rfl⟩
theorem mp_nameOf (hS : Sh Z) (h : TokM I L k v) (hk : k < 38) (h11 : 11 ≤ k) (hv : k = 20 → v < 11) : Cl g 3 mu_X12_nameOf [rf g 76] (Z, I, L) (some (.int (if k = 20 then nI v else -1))) (Z, I, L) := by
  have q := fun w (hw : w < 19) (z : I 76 11 = 2) => (tk_w h hk hw).1 z
  -- the name w is it
  have yes : ∀ w, w < 11 → I 76 11 = 2 → L 76 13 = wC w → some (Value.int (if k = 20 then nI v else -1)) = some (Value.int (nI w)) := fun w hw z y => by
    have e := (q w (by omega) z).mp y
    unfold wxF at e
    by_cases h20 : k = 20
    · rw [if_pos h20] at e ⊢; rw [e]
    · rw [if_neg h20] at e; omega
  have no : (∀ w, w < 11 → ¬ wxF k v = w) → some (Value.int (if k = 20 then nI v else -1)) = some (Value.int (-1)) := fun hn => by
    by_cases h20 : k = 20
    · exfalso
      have := hn v (hv h20)
      unfold wxF at this
      rw [if_pos h20] at this
      exact this rfl
    · rw [if_neg h20]
  have c1 : ((wC 0 : Int64) = wC 0) := rfl
  have x1 : ∀ {a b : Int64}, ¬ lg_cmp a b = 0 → ¬ a = b := fun z y => z ((lg_cmp_eq _ _).mpr y)
  have x0 : ∀ {a b : Int64}, lg_cmp a b = 0 → a = b := fun z => (lg_cmp_eq _ _).mp z
  refine cp_X12_nameOf (hS.k 76 12 (by decide) (by decide)) ⟨fun z => ⟨_, w3_c 0 (by decide), fun n0 => ⟨_, cp_X12_w3 ⟨rfl, rfl⟩, _, cp_X12_w4 ⟨_, cp_X12_w3 ⟨rfl, rfl⟩, rfl, rfl⟩, fun n1 => ⟨fun n2 => ⟨fun n3 => ⟨_, w4_c 4 (by decide), fun n4 => ⟨_, w5_c 5 (by decide), fun n5 => ⟨_, w5_c 6 (by decide), fun n6 => ⟨_, cp_X12_w3 ⟨rfl, rfl⟩, _, cp_X12_w4 ⟨_, cp_X12_w3 ⟨rfl, rfl⟩, rfl, rfl⟩, fun n7 => ⟨_, w5_c 8 (by decide), fun n8 => ⟨_, w4_c 9 (by decide), fun n9 => ⟨_, w4_c 10 (by decide), fun n10 => ⟨no (fun w hw e => ?_), rfl⟩, fun y => ⟨yes 10 (by decide) z (x0 y), rfl⟩⟩, fun y => ⟨yes 9 (by decide) z (x0 y), rfl⟩⟩, fun y => ⟨yes 8 (by decide) z (x0 y), rfl⟩⟩, fun y => ⟨yes 7 (by decide) z ((x0 y).trans (by decide)), rfl⟩⟩, fun y => ⟨yes 6 (by decide) z (x0 y), rfl⟩⟩, fun y => ⟨yes 5 (by decide) z (x0 y), rfl⟩⟩, fun y => ⟨yes 4 (by decide) z (x0 y), rfl⟩⟩, fun y => ⟨yes 3 (by decide) z ((x0 y).trans (by decide)), rfl⟩⟩, fun y => ⟨yes 2 (by decide) z ((x0 y).trans (by decide)), rfl⟩⟩, fun y => ⟨yes 1 (by decide) z ((x0 y).trans (by decide)), rfl⟩⟩, fun y => ⟨yes 0 (by decide) z (x0 y), rfl⟩⟩, fun z => ⟨no (fun w hw => (tk_w h hk (by omega)).2 z), rfl⟩⟩
  have e2 := (q w (by omega) z).mpr e
  have cs : w = 0 ∨ w = 1 ∨ w = 2 ∨ w = 3 ∨ w = 4 ∨ w = 5 ∨ w = 6 ∨ w = 7 ∨ w = 8 ∨ w = 9 ∨ w = 10 := by omega
  rcases cs with rfl | rfl | rfl | rfl | rfl | rfl | rfl | rfl | rfl | rfl | rfl
  · exact x1 n0 e2
  · exact x1 n1 (e2.trans (by decide))
  · exact x1 n2 (e2.trans (by decide))
  · exact x1 n3 (e2.trans (by decide))
  · exact x1 n4 e2
  · exact x1 n5 e2
  · exact x1 n6 e2
  · exact x1 n7 (e2.trans (by decide))
  · exact x1 n8 e2
  · exact x1 n9 e2
  · exact x1 n10 e2
end MWORD
