/-! the tokens of a tape -/
def isLt (c : Nat) : Bool := (decide (97 ≤ c) && decide (c ≤ 122)) || (decide (65 ≤ c) && decide (c ≤ 90))
def isDg (c : Nat) : Bool := decide (48 ≤ c) && decide (c ≤ 57)
def runF (f : Nat → Bool) (tp : List Nat) : Nat → Nat → Nat
  | 0, p => p
  | k + 1, p => if f (tp.getD p 0) then runF f tp k (p + 1) else p
/-- which word is spelled: 19 is none -/
def fiF (l : List Nat) : Nat → Nat → Nat
  | 0, w => w
  | d + 1, w => if l = spL.getD w [] then w else fiF l d (w + 1)
def wdF (l : List Nat) : Nat := fiF l 19 0
def numF (tp : List Nat) : Nat → Nat → Nat → Nat
  | 0, _, v => v
  | k + 1, p, v => if isDg (tp.getD p 0) then numF tp k (p + 1) (min 10000 (10 * v + tp.getD p 0 - 48)) else v
def sgnL : List Nat := [36, 36, 36, 36, 36, 36, 36, 36, 36, 36, 36, 36, 36, 36, 36, 36, 36, 36, 36, 36, 36, 36, 36, 36, 36, 36, 36, 36, 36, 36, 36, 36, 36, 36, 36, 26, 36, 36, 36, 36, 31, 32, 29, 27, 36, 28, 36, 30, 36, 36, 36, 36, 36, 36, 36, 36, 36, 36, 35, 33, 21, 25, 23, 34]
def sgnF (c : Nat) : Nat := sgnL.getD c 36
/-- the word from p to e: kind, value -/
def wkF (w : Nat) : Nat := if w < 11 then 20 else if w < 19 then w else 36
def wvF (w : Nat) : Nat := if w < 11 then w else 0
/-- the token at p: kind, value, where the next one may stand -/
def tkF (tp : List Nat) (p : Nat) : Nat × Nat × Nat :=
  if isLt (tp.getD p 0) then (wkF (wdF ((tp.drop p).take (runF isLt tp 300 p - p))), wvF (wdF ((tp.drop p).take (runF isLt tp 300 p - p))), runF isLt tp 300 p)
  else if isDg (tp.getD p 0) then (19, numF tp 300 p 0, runF isDg tp 300 p)
  else if (tp.getD p 0 = 60 ∨ tp.getD p 0 = 62) ∧ tp.getD (p + 1) 0 = 61 then (sgnF (tp.getD p 0) + 1, 0, p + 2) else (sgnF (tp.getD p 0), 0, p + 1)
def scF (tp : List Nat) : Nat → Nat → List (Nat × Nat × Nat)
  | 0, _ => [(37, tp.length, 0)]
  | k + 1, p => if tp.length ≤ p then [(37, tp.length, 0)] else if tp.getD p 0 = 32 ∨ tp.getD p 0 = 10 then scF tp k (p + 1) else ((tkF tp p).1, p, (tkF tp p).2.1) :: scF tp k (tkF tp p).2.2
def tkL (tp : List Nat) : List (Nat × Nat × Nat) := scF tp 300 0
theorem scF_len (tp : List Nat) : ∀ (k p : Nat), (scF tp k p).length ≤ k + 1 := by
  intro k
  induction k with
  | zero => intro p; exact Nat.le_refl _
  | succ k ih =>
    intro p
    unfold scF
    split
    · show 1 ≤ _; omega
    · split
      · have := ih (p + 1); omega
      · rw [List.length_cons]
        have := ih (tkF tp p).2.2
        omega
def T8 (tp : List Nat) : Prop := ∀ (k : Nat) v, tp[k]? = some v → v < 256
theorem T8.at {tp : List Nat} (h : T8 tp) (k : Nat) : tp.getD k 0 < 256 := by
  have := getD_le (m := 255) (fun j v hj => by have := h j v hj; omega) k
  omega
theorem run_ge {f : Nat → Bool} {tp : List Nat} : ∀ (k p : Nat), p ≤ runF f tp k p := by
  intro k
  induction k with
  | zero => intro p; exact Nat.le_refl _
  | succ k ih =>
    intro p
    unfold runF
    split
    · have := ih (p + 1); omega
    · exact Nat.le_refl _
theorem run_le {f : Nat → Bool} {tp : List Nat} (h0 : f 0 = false) : ∀ (k p : Nat), p ≤ tp.length → runF f tp k p ≤ tp.length := by
  intro k
  induction k with
  | zero => intro p hp; exact hp
  | succ k ih =>
    intro p hp
    unfold runF
    split
    · rename_i hf
      refine ih (p + 1) ?_
      by_cases he : p < tp.length
      · omega
      · rw [List.getD_eq_getElem?_getD, List.getElem?_eq_none (by omega)] at hf
        have hf : f 0 = true := hf
        rw [h0] at hf; cases hf
    · exact hp
section SCAN
variable {g : GE} {Z : Zs} {I : Nat → Nat → Int32} {L : Nat → Nat → Int64} {tp : List Nat}
theorem sp_isLt {c : Nat} (hc : c < 256) : Cl g 1 mu_X9_isLetter [.int (nI c)] (Z, I, L) (some (.int (b2i (isLt c)))) (Z, I, L) := by
  have l97 : nI c < 97 ↔ c < 97 := nI_ltI (b := 97) (by omega) (by decide)
  have l65 : nI c < 65 ↔ c < 65 := nI_ltI (b := 65) (by omega) (by decide)
  have g90 : 90 < nI c ↔ 90 < c := nI_ltI (a := 90) (by decide) (by omega)
  have l122 : nI c ≤ 122 ↔ c ≤ 122 := nI_leI (b := 122) (by omega) (by decide)
  refine cp_X9_isLetter ?_
  rw [l97, l65, g90, l122]
  unfold isLt
  refine ⟨fun h1 => ⟨fun h2 => ⟨?_, rfl⟩, fun h2 => ⟨fun h3 => ⟨?_, rfl⟩, fun h3 => ⟨?_, rfl⟩⟩⟩, fun h1 => ⟨fun h2 => ⟨?_, rfl⟩, fun h2 => ⟨fun h3 => ⟨?_, rfl⟩, fun h3 => ⟨fun h4 => ⟨?_, rfl⟩, fun h4 => ⟨?_, rfl⟩⟩⟩⟩⟩
  · rw [decide_eq_false (show ¬ 97 ≤ c by omega), decide_eq_false (show ¬ 65 ≤ c by omega)]; rfl
  · rw [decide_eq_false (show ¬ 97 ≤ c by omega), decide_eq_false (show ¬ c ≤ 90 by omega), Bool.and_false]; rfl
  · rw [decide_eq_true (show 65 ≤ c by omega), decide_eq_true (show c ≤ 90 by omega), Bool.or_comm]; rfl
  · rw [decide_eq_true (show 97 ≤ c by omega), decide_eq_true h2]; rfl
  · omega
  · rw [decide_eq_false h2, decide_eq_false (show ¬ c ≤ 90 by omega), Bool.and_false, Bool.and_false]; rfl
  · omega
theorem sp_isDg {c : Nat} (hc : c < 256) : Cl g 1 mu_X9_isDigit [.int (nI c)] (Z, I, L) (some (.int (b2i (isDg c)))) (Z, I, L) := by
  have l48 : nI c < 48 ↔ c < 48 := nI_ltI (b := 48) (by omega) (by decide)
  have g57 : 57 < nI c ↔ 57 < c := nI_ltI (a := 57) (by decide) (by omega)
  refine cp_X9_isDigit ?_
  rw [l48, g57]
  unfold isDg
  refine ⟨fun h1 => ⟨?_, rfl⟩, fun h1 => ⟨fun h2 => ⟨?_, rfl⟩, fun h2 => ⟨?_, rfl⟩⟩⟩
  · rw [decide_eq_false (show ¬ 48 ≤ c by omega)]; rfl
  · rw [decide_eq_false (show ¬ c ≤ 57 by omega), Bool.and_false]; rfl
  · rw [decide_eq_true (show 48 ≤ c by omega), decide_eq_true (show c ≤ 57 by omega)]; rfl
theorem sgn_lo : ∀ c, c < 35 → sgnF c = 36 := by decide
theorem sgn_hi {c : Nat} (h : 63 < c) : sgnF c = 36 := by
  unfold sgnF
  rw [List.getD_eq_getElem?_getD, List.getElem?_eq_none (by show 64 ≤ c; omega)]; rfl
theorem sgn_le (c : Nat) : sgnF c ≤ 36 := by
  by_cases h : c < 64
  · have : ∀ c, c < 64 → sgnF c ≤ 36 := by decide
    exact this c h
  · rw [sgn_hi (by omega)]; omega
theorem sp_sign {c : Nat} (hc : c < 256) : Cl g 1 mu_X9_kindOfSign [.int (nI c)] (Z, I, L) (some (.int (nI (sgnF c)))) (Z, I, L) := by
  have kq : ∀ k, k < 256 → nI c = nI k → c = k := fun k hk e => (nI_eq (by omega) (by omega)).mp e
  refine cp_X9_kindOfSign ⟨fun e => ⟨?_, rfl⟩, fun e => ⟨by rw [kq 35 (by decide) e]; rfl, rfl⟩, fun e => ⟨by rw [kq 36 (by decide) e]; rfl, rfl⟩, fun e => ⟨by rw [kq 37 (by decide) e]; rfl, rfl⟩, fun e => ⟨by rw [kq 38 (by decide) e]; rfl, rfl⟩, fun e => ⟨by rw [kq 39 (by decide) e]; rfl, rfl⟩, fun e => ⟨by rw [kq 40 (by decide) e]; rfl, rfl⟩, fun e => ⟨by rw [kq 41 (by decide) e]; rfl, rfl⟩, fun e => ⟨by rw [kq 42 (by decide) e]; rfl, rfl⟩, fun e => ⟨by rw [kq 43 (by decide) e]; rfl, rfl⟩, fun e => ⟨by rw [kq 44 (by decide) e]; rfl, rfl⟩, fun e => ⟨by rw [kq 45 (by decide) e]; rfl, rfl⟩, fun e => ⟨by rw [kq 46 (by decide) e]; rfl, rfl⟩, fun e => ⟨by rw [kq 47 (by decide) e]; rfl, rfl⟩, fun e => ⟨by rw [kq 48 (by decide) e]; rfl, rfl⟩, fun e => ⟨by rw [kq 49 (by decide) e]; rfl, rfl⟩, fun e => ⟨by rw [kq 50 (by decide) e]; rfl, rfl⟩, fun e => ⟨by rw [kq 51 (by decide) e]; rfl, rfl⟩, fun e => ⟨by rw [kq 52 (by decide) e]; rfl, rfl⟩, fun e => ⟨by rw [kq 53 (by decide) e]; rfl, rfl⟩, fun e => ⟨by rw [kq 54 (by decide) e]; rfl, rfl⟩, fun e => ⟨by rw [kq 55 (by decide) e]; rfl, rfl⟩, fun e => ⟨by rw [kq 56 (by decide) e]; rfl, rfl⟩, fun e => ⟨by rw [kq 57 (by decide) e]; rfl, rfl⟩, fun e => ⟨by rw [kq 58 (by decide) e]; rfl, rfl⟩, fun e => ⟨by rw [kq 59 (by decide) e]; rfl, rfl⟩, fun e => ⟨by rw [kq 60 (by decide) e]; rfl, rfl⟩, fun e => ⟨by rw [kq 61 (by decide) e]; rfl, rfl⟩, fun e => ⟨by rw [kq 62 (by decide) e]; rfl, rfl⟩, fun e => ⟨by rw [kq 63 (by decide) e]; rfl, rfl⟩⟩
  rcases e with e | e
  · rw [sgn_lo c ((nI_ltI (b := 35) (by omega) (by decide)).mp e)]; rfl
  · rw [sgn_hi ((nI_ltI (a := 63) (by decide) (by omega)).mp e)]; rfl
/-- the three rows of the tokens -/
def TKz (Z : Zs) (I : Nat → Nat → Int32) (ts : List (Nat × Nat × Nat)) : Prop := IL Z I 5 6 301 (ts.map (fun q => q.1)) ∧ IL Z I 7 8 301 (ts.map (fun q => q.2.1)) ∧ IL Z I 9 10 301 (ts.map (fun q => q.2.2))
theorem TKz.kept {I1 : Nat → Nat → Int32} {ts : List (Nat × Nat × Nat)} (h : TKz Z I ts) (hf : ∀ a, 5 ≤ a → a ≤ 10 → I1 a = I a) : TKz Z I1 ts := ⟨h.1.kept (by rw [hf 5 (by decide) (by decide)]) (fun q _ => by rw [hf 6 (by decide) (by decide)]), h.2.1.kept (by rw [hf 7 (by decide) (by decide)]) (fun q _ => by rw [hf 8 (by decide) (by decide)]), h.2.2.kept (by rw [hf 9 (by decide) (by decide)]) (fun q _ => by rw [hf 10 (by decide) (by decide)])⟩
theorem sp_note (hS : Sh Z) {ts : List (Nat × Nat × Nat)} (hk : TKz Z I ts) (hl : ts.length ≤ 300) (a b c : Nat) : ∃ I1, Cl g 2 mu_X9_note [rf g 4, .int (nI a), .int (nI b), .int (nI c)] (Z, I, L) none (Z, I1, L) ∧ TKz Z I1 (ts ++ [(a, b, c)]) ∧ ∀ q, ¬ (5 ≤ q ∧ q ≤ 10) → I1 q = I q := by
  obtain ⟨k1, k2, k3⟩ := hk
  obtain ⟨J1, a1, a2, a3⟩ := sp_add (g := g) (L := L) k1 a
  rw [List.length_map, if_pos (by omega)] at a2
  obtain ⟨J2, b1, b2, b3⟩ := sp_add (g := g) (L := L) (k2.kept (I1 := J1) (by rw [a3 7 (by decide) (by decide)]) (fun q _ => by rw [a3 8 (by decide) (by decide)])) b
  rw [List.length_map, if_pos (by omega)] at b2
  obtain ⟨J3, c1, c2, c3⟩ := sp_add (g := g) (L := L) (k3.kept (I1 := J2) (by rw [b3 9 (by decide) (by decide), a3 9 (by decide) (by decide)]) (fun q _ => by rw [b3 10 (by decide) (by decide), a3 10 (by decide) (by decide)])) c
  rw [List.length_map, if_pos (by omega)] at c2
  refine ⟨J3, cp_X9_note (hS.k 4 9 (by decide) (by decide)) (hS.r 4 0 5 (by decide)) (hS.k 5 2 (by decide) (by decide)) (hS.r 4 1 7 (by decide)) (hS.k 7 2 (by decide) (by decide)) (hS.r 4 2 9 (by decide)) (hS.k 9 2 (by decide) (by decide)) ⟨J1, L, a1, J2, L, b1, J3, L, c1, rfl, rfl⟩, ⟨?_, ?_, ?_⟩, fun q hq => by rw [c3 q (by omega) (by omega), b3 q (by omega) (by omega), a3 q (by omega) (by omega)]⟩
  · rw [List.map_append]
    exact a2.kept (by rw [c3 5 (by decide) (by decide), b3 5 (by decide) (by decide)]) (fun q _ => by rw [c3 6 (by decide) (by decide), b3 6 (by decide) (by decide)])
  · rw [List.map_append]
    exact b2.kept (by rw [c3 7 (by decide) (by decide)]) (fun q _ => by rw [c3 8 (by decide) (by decide)])
  · rw [List.map_append]
    exact c2
end SCAN
