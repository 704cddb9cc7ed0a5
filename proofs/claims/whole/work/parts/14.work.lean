/-! the model's work: the codes of a clause, by two stacks -/
def rg (v : Int32) : Prop := -1000000 ≤ v.toInt ∧ v.toInt ≤ 1000000
def bcF (o : Nat) (x y : Int32) : Bool := if o = 10 then decide (x < y) else if o = 11 then decide (x ≤ y) else if o = 12 then decide (y < x) else if o = 13 then decide (y ≤ x) else if o = 14 then decide (x = y) else decide (¬ x = y)
def clF (x : Int64) : Int64 := if x < 1000000 then (if x < (-1000000) then (-1000000) else x) else 1000000
theorem hdF_long (x : Int64) : (hdF x).toInt64 = clF x := by
  unfold hdF clF
  have k : ∀ z : Int64, -1000000 ≤ z.toInt → z.toInt ≤ 1000000 → z.toInt32.toInt64 = z := by
    intro z h1 h2
    apply Int64.toInt_inj.mp
    rw [Int32.toInt_toInt64, Int64.toInt_toInt32]
    exact Int.bmod_eq_of_le (by omega) (by omega)
  have e1 : ((-1000000 : Int64)).toInt = -1000000 := by decide
  have e2 : ((1000000 : Int64)).toInt = 1000000 := by decide
  by_cases h1 : x < 1000000
  · rw [if_pos h1, if_pos h1]
    by_cases h2 : x < (-1000000)
    · rw [if_pos h2]; decide
    · rw [if_neg h2]
      apply k
      · rw [← e1]; exact Int64.le_iff_toInt_le.mp (Int64.not_lt.mp h2)
      · rw [← e2]; exact Int.le_of_lt (Int64.lt_iff_toInt_lt.mp h1)
  · rw [if_neg h1, if_neg h1]; decide
theorem hdF_rg (x : Int64) : rg (hdF x) := by
  unfold rg
  rw [← Int32.toInt_toInt64, hdF_long]
  unfold clF
  have e1 : ((-1000000 : Int64)).toInt = -1000000 := by decide
  have e2 : ((1000000 : Int64)).toInt = 1000000 := by decide
  by_cases h1 : x < 1000000
  · rw [if_pos h1]
    have a1 := Int64.lt_iff_toInt_lt.mp h1
    by_cases h2 : x < (-1000000)
    · rw [if_pos h2, e1]; omega
    · rw [if_neg h2]
      have a2 := Int64.le_iff_toInt_le.mp (Int64.not_lt.mp h2)
      omega
  · rw [if_neg h1, e2]; omega
theorem hjF_rg (c : Nat) (x y : Int32) : rg (hjF c x y) := hdF_rg _
theorem rg_neg {x : Int32} (h : rg x) : rg (-x) ∧ (-x).toInt64 = -x.toInt64 := by
  unfold rg at h ⊢
  have e : (-x).toInt = -x.toInt := by
    rw [Int32.toInt_neg]
    exact Int.bmod_eq_of_le (by omega) (by omega)
  refine ⟨by rw [e]; omega, ?_⟩
  apply Int64.toInt_inj.mp
  rw [Int32.toInt_toInt64, e, Int64.toInt_neg, Int32.toInt_toInt64]
  exact (Int.bmod_eq_of_le (by omega) (by omega)).symm
theorem rg_n {v : Nat} (h : v ≤ 9999) : rg (nI v) := by
  unfold rg
  rw [nI_toInt (by omega)]; omega
/-- one code is worked -/
def W1 (env : Nat → Int32) (o v : Nat) (vs : List Int32) (ts : List Bool) (vs' : List Int32) (ts' : List Bool) : Prop :=
  (o = 0 ∧ v ≤ 9999 ∧ vs' = vs ++ [nI v] ∧ ts' = ts ∧ vs.length < 330) ∨
  (o = 1 ∧ v < 11 ∧ vs' = vs ++ [env v] ∧ ts' = ts ∧ vs.length < 330) ∨
  (o = 2 ∧ ∃ t x, vs = t ++ [x] ∧ vs' = t ++ [-x] ∧ ts' = ts) ∨
  (3 ≤ o ∧ o ≤ 6 ∧ ∃ t x y, vs = t ++ [x] ++ [y] ∧ vs' = t ++ [hjF (o + 24) x y] ∧ ts' = ts) ∨
  (10 ≤ o ∧ o ≤ 15 ∧ ∃ x y, vs = vs' ++ [x] ++ [y] ∧ ts' = ts ++ [bcF o x y] ∧ ts.length < 330) ∨
  (o = 20 ∧ ∃ t b, ts = t ++ [b] ∧ ts' = t ++ [!b] ∧ vs' = vs) ∨
  (o = 21 ∧ ∃ t a b, ts = t ++ [a] ++ [b] ∧ ts' = t ++ [a && b] ∧ vs' = vs) ∨
  (o = 22 ∧ ∃ t a b, ts = t ++ [a] ++ [b] ∧ ts' = t ++ [a || b] ∧ vs' = vs) ∨
  (o = 23 ∧ ∃ t x y b, vs = t ++ [x] ++ [y] ∧ ts = ts' ++ [b] ∧ vs' = t ++ [if b then x else y])
def Wn (env : Nat → Int32) : List (Nat × Nat) → List Int32 → List Bool → List Int32 → List Bool → Prop
  | [], vs, ts, vs', ts' => vs = vs' ∧ ts = ts'
  | q :: cs, vs, ts, vs', ts' => ∃ v1 t1, W1 env q.1 q.2 vs ts v1 t1 ∧ Wn env cs v1 t1 vs' ts'
theorem Wn.tr {env : Nat → Int32} : ∀ {cs ds : List (Nat × Nat)} {vs ts v1 t1 v2 t2}, Wn env cs vs ts v1 t1 → Wn env ds v1 t1 v2 t2 → Wn env (cs ++ ds) vs ts v2 t2
  | [], ds, vs, ts, v1, t1, v2, t2, h, k => by obtain ⟨rfl, rfl⟩ := h; exact k
  | q :: cs, ds, vs, ts, v1, t1, v2, t2, h, k => by
    obtain ⟨a, b, h1, h2⟩ := h
    exact ⟨a, b, h1, Wn.tr h2 k⟩
def b2i (b : Bool) : Int32 := if b then 1 else 0
/-- the two stacks in the model's arrays vb, tb -/
def WS (Z : Zs) (I : Nat → Nat → Int32) (L : Nat → Nat → Int64) (vb tb : Nat) (vs : List Int32) (ts : List Bool) : Prop := vs.length ≤ 330 ∧ ts.length ≤ 330 ∧ (∀ k x, vs[k]? = some x → L vb k = x.toInt64 ∧ rg x) ∧ ∀ k b, ts[k]? = some b → I tb k = b2i b
/-- the model's arrays that work uses -/
def MW (Z : Zs) (o tx nb vb tb : Nat) : Prop := KM Z o 12 ∧ Z.2.1 o 4 = some tx ∧ KM Z tx 13 ∧ Z.2.2.1 tx = 2480 ∧ Z.2.1 o 24 = some nb ∧ KM Z nb 13 ∧ Z.2.2.1 nb = 11 ∧ Z.2.1 o 25 = some vb ∧ KM Z vb 14 ∧ Z.2.2.1 vb = 330 ∧ Z.2.1 o 26 = some tb ∧ KM Z tb 15 ∧ Z.2.2.1 tb = 330
theorem WS.pushV {Z : Zs} {I : Nat → Nat → Int32} {L : Nat → Nat → Int64} {vb tb : Nat} {vs : List Int32} {ts : List Bool} (h : WS Z I L vb tb vs ts) (hl : vs.length < 330) {x : Int32} (hx : rg x) {w : Int64} (hw : w = x.toInt64) : WS Z I (rw1 L vb (vp_updL (L vb) vs.length w)) vb tb (vs ++ [x]) ts := by
  obtain ⟨h1, h2, h3, h4⟩ := h
  refine ⟨by rw [List.length_append, List.length_singleton]; omega, h2, fun k y hk => ?_, h4⟩
  rw [rw1_s]
  unfold vp_updL
  by_cases hkl : k < vs.length
  · rw [List.getElem?_append_left hkl] at hk
    rw [if_neg (by omega)]
    exact h3 k y hk
  · have hkl2 := (List.getElem?_eq_some_iff.mp hk).1
    rw [List.length_append, List.length_singleton] at hkl2
    have hke : k = vs.length := by omega
    subst hke
    rw [List.getElem?_append_right (Nat.le_refl _), Nat.sub_self] at hk
    rw [if_pos rfl, hw]
    obtain rfl := Option.some.inj hk
    exact ⟨rfl, hx⟩
theorem WS.pushT {Z : Zs} {I : Nat → Nat → Int32} {L : Nat → Nat → Int64} {vb tb : Nat} {vs : List Int32} {ts : List Bool} (h : WS Z I L vb tb vs ts) (hl : ts.length < 330) {b : Bool} {w : Int32} (hw : w = b2i b) : WS Z (rw1 I tb (upd (I tb) ts.length w)) L vb tb vs (ts ++ [b]) := by
  obtain ⟨h1, h2, h3, h4⟩ := h
  refine ⟨h1, by rw [List.length_append, List.length_singleton]; omega, h3, fun k y hk => ?_⟩
  rw [rw1_s]
  unfold upd
  by_cases hkl : k < ts.length
  · rw [List.getElem?_append_left hkl] at hk
    rw [if_neg (by omega)]
    exact h4 k y hk
  · have hkl2 := (List.getElem?_eq_some_iff.mp hk).1
    rw [List.length_append, List.length_singleton] at hkl2
    have hke : k = ts.length := by omega
    subst hke
    rw [List.getElem?_append_right (Nat.le_refl _), Nat.sub_self] at hk
    rw [if_pos rfl, hw]
    obtain rfl := Option.some.inj hk
    rfl
theorem WS.less {Z : Zs} {I : Nat → Nat → Int32} {L : Nat → Nat → Int64} {vb tb : Nat} {vs va : List Int32} {ts ta : List Bool} (h : WS Z I L vb tb (vs ++ va) (ts ++ ta)) : WS Z I L vb tb vs ts := by
  obtain ⟨h1, h2, h3, h4⟩ := h
  rw [List.length_append] at h1 h2
  refine ⟨by omega, by omega, fun k x hk => h3 k x ?_, fun k x hk => h4 k x ?_⟩
  · rw [List.getElem?_append_left (List.getElem?_eq_some_iff.mp hk).1]; exact hk
  · rw [List.getElem?_append_left (List.getElem?_eq_some_iff.mp hk).1]; exact hk
section WORK
variable {g : GE} {Z : Zs} {I : Nat → Nat → Int32} {L : Nat → Nat → Int64}
theorem sp_clip (x : Int64) : Cl g 1 mu_X12_clip [.long x] (Z, I, L) (some (.long (clF x))) (Z, I, L) := by
  refine cp_X12_clip ?_
  rw [lg_cmp_le, lg_cmp_ge]
  have e1 : ((-1000000 : Int64)).toInt = -1000000 := by decide
  have e2 : ((1000000 : Int64)).toInt = 1000000 := by decide
  unfold clF
  refine ⟨fun h => ⟨fun k => ⟨?_, rfl⟩, fun k => ⟨?_, rfl⟩⟩, fun h => ⟨?_, rfl⟩⟩
  · by_cases h1 : x < 1000000
    · rw [if_pos h1, if_neg (Int64.not_lt.mpr k)]
    · rw [if_neg h1]
      have : x = 1000000 := Int64.le_antisymm h (Int64.not_lt.mp h1)
      rw [this]
  · have k2 := Int64.not_le.mp k
    have h1 : x < 1000000 := Int64.lt_trans k2 (by decide)
    rw [if_pos h1, if_pos k2]
  · have h2 := Int64.not_le.mp h
    rw [if_neg (Int64.not_lt.mpr (Int64.le_of_lt h2))]
theorem sp_two {o : Nat} (h1 : 3 ≤ o) (h2 : o ≤ 6) (x y : Int32) : Cl g 2 mu_X12_two [.int (nI o), .long x.toInt64, .long y.toInt64] (Z, I, L) (some (.long (hjF (o + 24) x y).toInt64)) (Z, I, L) := by
  unfold hjF
  rw [hdF_long]
  refine cp_X12_two ?_
  rw [lg_cmp_eq]
  have cs : o = 3 ∨ o = 4 ∨ o = 5 ∨ o = 6 := by omega
  rcases cs with rfl | rfl | rfl | rfl
  · exact ⟨fun h => absurd h (by decide), fun _ => ⟨_, sp_clip _, rfl, rfl⟩, fun h => absurd h (by decide), fun h => absurd h (by decide)⟩
  · exact ⟨fun h => absurd h (by decide), fun h => absurd h (by decide), fun _ => ⟨_, sp_clip _, rfl, rfl⟩, fun h => absurd h (by decide)⟩
  · exact ⟨fun h => absurd h (by decide), fun h => absurd h (by decide), fun h => absurd h (by decide), fun _ => ⟨_, sp_clip _, rfl, rfl⟩⟩
  · refine ⟨fun _ => ⟨fun h => ⟨h, _, sp_clip _, ?_, rfl⟩, fun h => ⟨?_, rfl⟩⟩, fun h => absurd h (by decide), fun h => absurd h (by decide), fun h => absurd h (by decide)⟩
    · simp [jnF, h]
    · simp [jnF, h, clF]
theorem sp_isAsked {o : Nat} (h1 : 10 ≤ o) (h2 : o ≤ 15) (x y : Int32) : Cl g 1 mu_X12_isAsked [.int (nI o), .long x.toInt64, .long y.toInt64] (Z, I, L) (some (.int (b2i (bcF o x y)))) (Z, I, L) := by
  refine cp_X12_isAsked ?_
  rw [lg_cmp_eq, lg_cmp_lt, lg_cmp_le, lg_cmp_gt, lg_cmp_ge]
  have a1 : (x.toInt64 = y.toInt64) ↔ x = y := ⟨fun h => by have := congrArg Int64.toInt h; rw [Int32.toInt_toInt64, Int32.toInt_toInt64] at this; exact Int32.toInt_inj.mp this, fun h => by rw [h]⟩
  have a2 : ∀ p q : Int32, (p.toInt64 < q.toInt64) ↔ p < q := fun p q => by rw [Int64.lt_iff_toInt_lt, Int32.lt_iff_toInt_lt, Int32.toInt_toInt64, Int32.toInt_toInt64]
  have a3 : ∀ p q : Int32, (p.toInt64 ≤ q.toInt64) ↔ p ≤ q := fun p q => by rw [Int64.le_iff_toInt_le, Int32.le_iff_toInt_le, Int32.toInt_toInt64, Int32.toInt_toInt64]
  rw [a1, a2, a2, a3, a3]
  have cs : o = 10 ∨ o = 11 ∨ o = 12 ∨ o = 13 ∨ o = 14 ∨ o = 15 := by omega
  rcases cs with rfl | rfl | rfl | rfl | rfl | rfl
  · refine ⟨fun h => absurd rfl h, fun _ => ⟨fun h => ⟨?_, rfl⟩, fun h => ⟨?_, rfl⟩⟩⟩
    · simp [bcF, b2i, Int32.not_lt.mpr h]
    · simp [bcF, b2i, Int32.not_le.mp h]
  · refine ⟨fun _ => ⟨fun h => absurd rfl h, fun _ => ⟨fun h => ⟨?_, rfl⟩, fun h => ⟨?_, rfl⟩⟩⟩, fun h => absurd h (by decide)⟩
    · simp [bcF, b2i, Int32.not_le.mpr h]
    · simp [bcF, b2i, Int32.not_lt.mp h]
  · refine ⟨fun _ => ⟨fun _ => ⟨fun h => absurd rfl h, fun _ => ⟨fun h => ⟨?_, rfl⟩, fun h => ⟨?_, rfl⟩⟩⟩, fun h => absurd h (by decide)⟩, fun h => absurd h (by decide)⟩
    · simp [bcF, b2i, Int32.not_lt.mpr h]
    · simp [bcF, b2i, Int32.not_le.mp h]
  · refine ⟨fun _ => ⟨fun _ => ⟨fun _ => ⟨fun h => absurd rfl h, fun _ => ⟨fun h => ⟨?_, rfl⟩, fun h => ⟨?_, rfl⟩⟩⟩, fun h => absurd h (by decide)⟩, fun h => absurd h (by decide)⟩, fun h => absurd h (by decide)⟩
    · simp [bcF, b2i, Int32.not_le.mpr h]
    · simp [bcF, b2i, Int32.not_lt.mp h]
  · refine ⟨fun _ => ⟨fun _ => ⟨fun _ => ⟨fun _ => ⟨fun h => absurd rfl h, fun _ => ⟨fun h => ⟨?_, rfl⟩, fun h => ⟨?_, rfl⟩⟩⟩, fun h => absurd h (by decide)⟩, fun h => absurd h (by decide)⟩, fun h => absurd h (by decide)⟩, fun h => absurd h (by decide)⟩
    · simp [bcF, b2i, h]
    · simp [bcF, b2i, h]
  · refine ⟨fun _ => ⟨fun _ => ⟨fun _ => ⟨fun _ => ⟨fun _ => ⟨fun h => ⟨?_, rfl⟩, fun h => ⟨?_, rfl⟩⟩, fun h => absurd h (by decide)⟩, fun h => absurd h (by decide)⟩, fun h => absurd h (by decide)⟩, fun h => absurd h (by decide)⟩, fun h => absurd h (by decide)⟩
    · simp [bcF, b2i, h]
    · simp [bcF, b2i, h]
end WORK
