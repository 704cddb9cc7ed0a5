/-! the model's looks at its pile and at words -/
def PRz (I : Nat → Nat → Int32) (R : List Nat) : Prop := R.length ≤ 160 ∧ (∀ x ∈ R, x < 64) ∧ ∀ (j : Nat) v, R.reverse[j]? = some v → I 81 j = nI v
theorem PLz.pr {I : Nat → Nat → Int32} {P : List Nat} (h : PLz I P) : PRz I P := h.2
theorem PRz.tail {I : Nat → Nat → Int32} {q : Nat} {R : List Nat} (h : PRz I (q :: R)) : PRz I R := by
  obtain ⟨b, c, d⟩ := h
  rw [List.length_cons] at b
  refine ⟨by omega, fun x hx => c x (List.mem_cons_of_mem _ hx), fun j v hj => d j v ?_⟩
  rw [List.reverse_cons, List.getElem?_append_left (List.getElem?_eq_some_iff.mp hj).1]
  exact hj
theorem PRz.top {I : Nat → Nat → Int32} {P : List Nat} {q : Nat} (h : PRz I (q :: P)) : I 81 P.length = nI q := h.2.2 P.length q (by
  rw [List.reverse_cons, List.getElem?_append_right (by rw [List.length_reverse]; exact Nat.le_refl _), List.length_reverse, Nat.sub_self]; rfl)
/-- how many lie up to the last opener -/
def mxF : List Nat → Nat
  | [] => 0
  | q :: R => if 40 ≤ q then R.length + 1 else mxF R
theorem mx_none {R : List Nat} (h : mkF R = none) : mxF R = 0 := by
  induction R with
  | nil => rfl
  | cons q R ih =>
    have h : (if 40 ≤ q then some q else mkF R) = none := h
    show (if 40 ≤ q then R.length + 1 else mxF R) = 0
    by_cases hq : 40 ≤ q
    · rw [if_pos hq] at h; cases h
    · rw [if_neg hq] at h ⊢; exact ih h
theorem mx_some {I : Nat → Nat → Int32} {R : List Nat} {m : Nat} (hp : PRz I R) (h : mkF R = some m) : ∃ n, mxF R = n + 1 ∧ n < R.length ∧ I 81 n = nI m ∧ 40 ≤ m ∧ m < 64 := by
  induction R with
  | nil => cases h
  | cons q R ih =>
    have h : (if 40 ≤ q then some q else mkF R) = some m := h
    show ∃ n, (if 40 ≤ q then R.length + 1 else mxF R) = n + 1 ∧ _
    by_cases hq : 40 ≤ q
    · rw [if_pos hq] at h ⊢
      have e := Option.some.inj h
      rw [← e]
      exact ⟨R.length, rfl, by rw [List.length_cons]; omega, hp.top, hq, hp.2.1 q List.mem_cons_self⟩
    · rw [if_neg hq] at h ⊢
      obtain ⟨n, a, b, c⟩ := ih hp.tail h
      exact ⟨n, a, by rw [List.length_cons]; omega, c⟩
theorem nI_m1 : nI 0 - 1 = (-1 : Int32) := by decide
section MLOOK
variable {g : GE} {Z : Zs} {I : Nat → Nat → Int32} {L : Nat → Nat → Int64}
theorem mk_7 (hS : Sh Z) : ∀ R, PRz I R → Lp_X12_marker_7 g 1 76 (nI R.length - 1) (Z, I, L) (some (.int (nI (mxF R) - 1))) (Z, I, L) := by
  have k76 := hS.k 76 12 (by decide) (by decide)
  have r81 := hS.r 76 18 81 (by decide)
  have k81 := hS.k 81 13 (by decide) (by decide)
  have n81 := hS.n 81 160 (by decide)
  intro R
  induction R with
  | nil => intro _; exact wp_X12_marker_7 k76 r81 k81 ⟨fun _ => ⟨rfl, rfl⟩, fun z => absurd (by decide) z⟩
  | cons q R ih =>
    intro h
    have hl := h.1
    rw [List.length_cons] at hl
    have q64 := h.2.1 q List.mem_cons_self
    have e : nI (q :: R).length - 1 = nI R.length := by rw [List.length_cons, nI_pred]
    rw [e]
    have ge : (40 : Int32) ≤ nI q ↔ 40 ≤ q := nI_leI (a := 40) (by decide) (by omega)
    refine wp_X12_marker_7 k76 r81 k81 ⟨fun z => absurd z (nI_pos (by omega)), fun _ => ⟨by rw [n81]; exact vp_in_nI (by omega) (by decide), ?_⟩⟩
    rw [nI_clamp (by omega), h.top]
    have em : mxF (q :: R) = if 40 ≤ q then R.length + 1 else mxF R := rfl
    rw [em]
    by_cases hq : 40 ≤ q
    · rw [if_pos hq, nI_pred]
      exact ⟨fun _ => ⟨rfl, rfl⟩, fun z => absurd (ge.mpr hq) z⟩
    · rw [if_neg hq]
      refine ⟨fun z => absurd (ge.mp z) hq, fun _ y hy => ?_⟩
      rw [hy, show nI R.length + (-1) = nI R.length - 1 from (Int32.sub_eq_add_neg _ _).symm]
      exact ih h.tail
theorem mp_marker (hS : Sh Z) {P : List Nat} (h : PLz I P) : Cl g 1 mu_X12_marker [rf g 76] (Z, I, L) (some (.int (nI (mxF P) - 1))) (Z, I, L) := cp_X12_marker (hS.k 76 12 (by decide) (by decide)) (fun y hy => by rw [hy, h.1]; exact mk_7 hS P h.pr)
theorem mp_kindOpen (hS : Sh Z) {P : List Nat} (h : PLz I P) (ei : Bool) : Cl g 2 mu_X12_kindOpen [rf g 76, .int (b2i ei)] (Z, I, L) (some (.int (nI (koF ei P)))) (Z, I, L) := by
  have n81 := hS.n 81 160 (by decide)
  have mk := mp_marker (g := g) (L := L) hS h
  refine cp_X12_kindOpen (hS.k 76 12 (by decide) (by decide)) (hS.r 76 18 81 (by decide)) (hS.k 81 13 (by decide) (by decide)) ⟨_, mk, ?_⟩
  unfold koF
  cases hm : mkF P with
  | none =>
    rw [mx_none hm, nI_m1]
    refine ⟨fun _ => ⟨fun z => ?_, fun z => ?_⟩, fun z => absurd (by decide) z⟩
    · cases ei with
      | true => exact absurd z (by decide)
      | false => exact ⟨rfl, rfl⟩
    · cases ei with
      | true => exact ⟨rfl, rfl⟩
      | false => exact absurd rfl z
  | some m =>
    obtain ⟨n, e1, e2, e3, -⟩ := mx_some h.pr hm
    have hl := h.2.1
    rw [e1, nI_pred]
    refine ⟨fun z => absurd z (nI_pos (by omega)), fun _ => ⟨by rw [n81]; exact vp_in_nI (by omega) (by decide), ?_, rfl⟩⟩
    rw [nI_clamp (by omega), e3]
theorem cm_7 (hS : Sh Z) : ∀ R, PRz I R → Lp_X12_isCompared_7 g 2 76 (nI R.length - 1) (Z, I, L) (some (.int (b2i (cmpF R)))) (Z, I, L) := by
  have k76 := hS.k 76 12 (by decide) (by decide)
  have r81 := hS.r 76 18 81 (by decide)
  have k81 := hS.k 81 13 (by decide) (by decide)
  have n81 := hS.n 81 160 (by decide)
  intro R
  induction R with
  | nil => intro _; exact wp_X12_isCompared_7 k76 r81 k81 ⟨fun _ => ⟨fun _ => ⟨rfl, rfl⟩, fun z => absurd (by decide) z⟩, fun z => absurd (by decide) z⟩
  | cons q R ih =>
    intro h
    have hl := h.1
    rw [List.length_cons] at hl
    have q64 := h.2.1 q List.mem_cons_self
    have e : nI (q :: R).length - 1 = nI R.length := by rw [List.length_cons, nI_pred]
    rw [e]
    have rk := mp_rank (g := g) (Z := Z) (I := I) (L := L) q64
    have rl := rk_lt q
    have le : nI (rkO q) ≤ 4 ↔ rkO q ≤ 4 := nI_leI (b := 4) (by omega) (by decide)
    have eq4 : nI (rkO q) = 4 ↔ rkO q = 4 := nI_eq (b := 4) (by omega) (by decide)
    have hin : vp_in (nI R.length) (Z.2.2.1 81) := by rw [n81]; exact vp_in_nI (by omega) (by decide)
    refine wp_X12_isCompared_7 k76 r81 k81 ⟨fun z => absurd z (nI_pos (by omega)), fun _ => ⟨hin, ?_⟩⟩
    rw [nI_clamp (by omega), h.top]
    have ec : cmpF (q :: R) = if 4 < rkO q then cmpF R else decide (rkO q = 4) := rfl
    rw [ec]
    by_cases hq : 4 < rkO q
    · rw [if_pos hq]
      refine ⟨_, rk, fun z => absurd (le.mp z) (by omega), fun _ y hy => ?_⟩
      rw [hy, show nI R.length + (-1) = nI R.length - 1 from (Int32.sub_eq_add_neg _ _).symm]
      exact ih h.tail
    · rw [if_neg hq]
      refine ⟨_, rk, fun _ => ⟨fun z => absurd z (nI_pos (by omega)), fun _ => ⟨hin, _, rk, fun z => ⟨?_, rfl⟩, fun z => ⟨?_, rfl⟩⟩⟩, fun z => absurd (le.mpr (by omega)) z⟩
      · rw [decide_eq_false (fun y => z (eq4.mpr y))]; rfl
      · rw [decide_eq_true (eq4.mp z)]; rfl
theorem mp_isCompared (hS : Sh Z) {P : List Nat} (h : PLz I P) : Cl g 2 mu_X12_isCompared [rf g 76] (Z, I, L) (some (.int (b2i (cmpF P)))) (Z, I, L) := cp_X12_isCompared (hS.k 76 12 (by decide) (by decide)) (fun y hy => by rw [hy, h.1]; exact cm_7 hS P h.pr)
theorem ko_lt {P : List Nat} (h : PLz I P) (ei : Bool) : koF ei P < 64 := by
  unfold koF
  cases hm : mkF P with
  | none => cases ei <;> decide
  | some m =>
    obtain ⟨n, e1, e2, e3, e4, e5⟩ := mx_some h.pr hm
    exact e5
theorem mp_isAskAhead (hS : Sh Z) {P : List Nat} (h : PLz I P) (ei : Bool) : Cl g 3 mu_X12_isAskAhead [rf g 76, .int (b2i ei)] (Z, I, L) (some (.int (b2i (askF ei P)))) (Z, I, L) := by
  have n81 := hS.n 81 160 (by decide)
  have ko := mp_kindOpen (g := g) (L := L) hS h ei
  have e41 : nI (koF ei P) = 41 ↔ koF ei P = 41 := nI_eq (b := 41) (by have := ko_lt h ei; omega) (by decide)
  refine cp_X12_isAskAhead (hS.k 76 12 (by decide) (by decide)) (hS.r 76 18 81 (by decide)) (hS.k 81 13 (by decide) (by decide)) ⟨_, ko, fun z => ⟨?_, rfl⟩, fun z => ?_⟩
  · unfold askF; rw [decide_eq_false (fun y => z (e41.mpr y))]; rfl
  · have e := e41.mp z
    unfold askF
    rw [decide_eq_true e]
    cases P with
    | nil => exact ⟨fun _ => ⟨rfl, rfl⟩, fun y => absurd h.1 y⟩
    | cons q P =>
      have hl := h.2.1
      rw [List.length_cons] at hl
      have h19 : I 76 19 = nI (P.length + 1) := h.1
      have q64 := h.2.2.1 q List.mem_cons_self
      have rk := mp_rank (g := g) (Z := Z) (I := I) (L := L) q64
      have rl := rk_lt q
      have hin : vp_in (nI P.length) (Z.2.2.1 81) := by rw [n81]; exact vp_in_nI (by omega) (by decide)
      have q41 : nI q = 41 ↔ q = 41 := nI_eq (b := 41) (by omega) (by decide)
      refine ⟨fun y => ?_, fun _ => ?_⟩
      · rw [h19] at y; exact absurd y (nI_ne0 (by omega) (by omega))
      rw [h19, nI_pred, nI_clamp (by omega), h.top]
      refine ⟨hin, fun y => ⟨?_, rfl⟩, fun y => ⟨hin, _, rk, _, sp_isIn (nI (rkO q)) 1 3, fun y2 => ⟨?_, rfl⟩, fun y2 => ⟨?_, rfl⟩⟩⟩
      · show some (Value.int (b2i (true && (decide (q = 41) || decide (1 ≤ rkO q ∧ rkO q ≤ 3))))) = _
        rw [decide_eq_true (q41.mp y)]; rfl
      · show some (Value.int (b2i (true && (decide (q = 41) || decide (1 ≤ rkO q ∧ rkO q ≤ 3))))) = _
        rw [decide_eq_false (fun x => y (q41.mpr x)), decide_eq_false]
        · rfl
        · intro x
          rw [if_pos ⟨fun w => by have := (nI_ltI (b := 1) (by omega) (by decide)).mp w; omega, fun w => by have := (nI_ltI (a := 3) (by decide) (by omega)).mp w; omega⟩] at y2
          exact absurd y2 (by decide)
      · show some (Value.int (b2i (true && (decide (q = 41) || decide (1 ≤ rkO q ∧ rkO q ≤ 3))))) = _
        rw [decide_eq_false (fun x => y (q41.mpr x)), decide_eq_true]
        · rfl
        · refine Classical.byContradiction (fun x => y2 (if_neg (fun w => x ⟨?_, ?_⟩)))
          · have t : ¬ rkO q < 1 := fun hh => w.1 ((nI_ltI (b := 1) (by omega) (by decide)).mpr hh)
            omega
          · have t : ¬ 3 < rkO q := fun hh => w.2 ((nI_ltI (a := 3) (by decide) (by omega)).mpr hh)
            omega
end MLOOK
