/-! the model's reader, by its meaning: a pile of openers and orders -/
def rkO (o : Nat) : Nat := if 40 ≤ o then 0 else if o = 22 then 1 else if o = 21 then 2 else if o = 20 then 3 else if 10 ≤ o then 4 else if o = 2 then 7 else if 5 ≤ o then 6 else 5
/-- settle: the top stands first -/
def stl (l : Nat) : List Nat → List (Nat × Nat) → List Nat × List (Nat × Nat)
  | [], cs => ([], cs)
  | q :: P, cs => if l ≤ rkO q then stl l P (cs ++ [(q, 0)]) else (q :: P, cs)
def mkF : List Nat → Option Nat
  | [] => none
  | q :: P => if 40 ≤ q then some q else mkF P
def koF (ei : Bool) (P : List Nat) : Nat := match mkF P with
  | some m => m
  | none => if ei then 41 else 40
def cmpF : List Nat → Bool
  | [] => false
  | q :: P => if 4 < rkO q then cmpF P else decide (rkO q = 4)
def hdA : List Nat → Bool
  | [] => true
  | q :: _ => decide (q = 41) || decide (1 ≤ rkO q ∧ rkO q ≤ 3)
def askF (ei : Bool) (P : List Nat) : Bool := decide (koF ei P = 41) && hdA P
def opsF (P : List Nat) : Nat := (P.filter (fun o => decide (o = 2 ∨ o = 20 ∨ 40 ≤ o))).length
/-- pile, codes, is the last one whole, token -/
abbrev MSt : Type := List Nat × List (Nat × Nat) × Bool × Nat
def pushF (P : List Nat) (cs : List (Nat × Nat)) (i o : Nat) : Nat ⊕ Option MSt := if opsF P = 8 then .inl 3 else .inr (some (o :: P, cs, false, i + 1))
def whlF (q : List Nat × List (Nat × Nat)) (i : Nat) : MSt := (q.1, q.2, true, i)
def begF (K V : Nat → Nat) (lk ei : Bool) (P : List Nat) (cs : List (Nat × Nat)) (i : Nat) : Nat ⊕ Option MSt :=
  if K i = 19 then (if 9999 < V i then .inl 2 else .inr (some (whlF (stl 7 P (cs ++ [(0, V i)])) (i + 1))))
  else if K i = 20 then (if decide (6 ≤ V i) = lk then .inr (some (whlF (stl 7 P (cs ++ [(1, V i)])) (i + 1))) else .inl 5)
  else if K i = 31 then pushF P cs i 40 else if K i = 28 then pushF P cs i 2 else if K i = 14 then pushF P cs i 41
  else if K i = 18 ∧ askF ei P = true then pushF P cs i 20 else .inl 1
def btwF (K : Nat → Nat) (ei : Bool) (P : List Nat) (i : Nat) : Option Nat := if K i = 27 then some 3 else if K i = 28 then some 4 else if K i = 29 then some 5 else if K i = 30 then some 6 else if ¬ koF ei P = 41 then none else if cmpF P = false then (if 21 ≤ K i ∧ K i ≤ 26 then some (K i - 11) else none) else if K i = 17 then some 21 else if K i = 16 then some 22 else none
def bhF (K : Nat → Nat) (ei : Bool) (P : List Nat) (cs : List (Nat × Nat)) (i : Nat) : Option MSt := match btwF K ei P i with
  | some o => some (o :: (stl (rkO o) P cs).1, (stl (rkO o) P cs).2, false, i + 1)
  | none => if K i = 32 ∧ mkF P = some 40 then some (whlF (stl 7 (stl 1 P cs).1.tail (stl 1 P cs).2) (i + 1))
    else if K i = 15 ∧ mkF P = some 43 then some (whlF (stl 7 (stl 1 P cs).1.tail ((stl 1 P cs).2 ++ [(23, 0)])) (i + 1))
    else if K i = 34 ∧ mkF P = some 41 ∧ cmpF P = true then some (42 :: (stl 1 P cs).1.tail, (stl 1 P cs).2, false, i + 1)
    else if K i = 35 ∧ mkF P = some 42 then some (43 :: (stl 1 P cs).1.tail, (stl 1 P cs).2, false, i + 1)
    else none
def stpF (K V : Nat → Nat) (lk ei : Bool) (s : MSt) : Nat ⊕ Option MSt := if s.2.2.1 = true then .inr (bhF K ei s.1 s.2.1 s.2.2.2) else begF K V lk ei s.1 s.2.1 s.2.2.2
def rchN (K V : Nat → Nat) (lk ei : Bool) : Nat → MSt → MSt → Prop
  | 0, s, s' => s = s'
  | n + 1, s, s' => ∃ s1, stpF K V lk ei s = .inr (some s1) ∧ rchN K V lk ei n s1 s'
def Rch (K V : Nat → Nat) (lk ei : Bool) (s s' : MSt) : Prop := ∃ n, rchN K V lk ei n s s'
/-- a fault is found at the token j -/
def Fau (K V : Nat → Nat) (lk ei : Bool) (s : MSt) (f j : Nat) : Prop := ∃ s', Rch K V lk ei s s' ∧ s'.2.2.2 = j ∧ (stpF K V lk ei s' = .inl f ∨ (stpF K V lk ei s' = .inr none ∧ f = 1 ∧ (¬ mkF s'.1 = none ∨ (ei = true ∧ cmpF s'.1 = false))))
def qcF (Q : List Nat) : List (Nat × Nat) := Q.map (fun q => (q, 0))
section PILE
variable {K V : Nat → Nat} {lk ei : Bool} {P Q : List Nat} {cs ds : List (Nat × Nat)} {i j r : Nat}
theorem Rch.refl (s : MSt) : Rch K V lk ei s s := ⟨0, rfl⟩
theorem Rch.step {s s1 s2 : MSt} (h : stpF K V lk ei s = .inr (some s1)) (k : Rch K V lk ei s1 s2) : Rch K V lk ei s s2 := by
  obtain ⟨n, k⟩ := k
  exact ⟨n + 1, s1, h, k⟩
theorem Rch.trans {s s1 s2 : MSt} (h : Rch K V lk ei s s1) (k : Rch K V lk ei s1 s2) : Rch K V lk ei s s2 := by
  obtain ⟨n, h⟩ := h
  induction n generalizing s with
  | zero => have h : s = s1 := h; rw [h]; exact k
  | succ n ih =>
    obtain ⟨s3, a, b⟩ := h
    exact Rch.step a (ih b)
theorem Rch.fau {s s1 : MSt} {f : Nat} (h : Rch K V lk ei s s1) (k : Fau K V lk ei s1 f j) : Fau K V lk ei s f j := by
  obtain ⟨s', a, b⟩ := k
  exact ⟨s', h.trans a, b⟩
/-- what waits on top: ranks of r at least -/
def Wai (r : Nat) (Q : List Nat) : Prop := ∀ x ∈ Q, r ≤ rkO x ∧ rkO x < 7
def lowP (r : Nat) : List Nat → Prop
  | [] => True
  | q :: _ => rkO q < r
theorem stl_low (h : lowP r P) : stl r P cs = (P, cs) := by
  cases P with
  | nil => rfl
  | cons q P =>
    have h : rkO q < r := h
    show (if r ≤ rkO q then _ else _) = _
    rw [if_neg (by omega)]
theorem stl_app (l : Nat) (h : Wai r Q) (hl : l ≤ r) : ∀ cs, stl l (Q ++ P) cs = stl l P (cs ++ qcF Q) := by
  induction Q with
  | nil => intro cs; show stl l P cs = stl l P (cs ++ []); rw [List.append_nil]
  | cons q Q ih =>
    intro cs
    have hq := (h q (List.mem_cons_self)).1
    show (if l ≤ rkO q then stl l (Q ++ P) (cs ++ [(q, 0)]) else _) = _
    rw [if_pos (by omega), ih (fun x hx => h x (List.mem_cons_of_mem _ hx)), List.append_assoc]; rfl
theorem rk_0 {q : Nat} : 1 ≤ rkO q ↔ q < 40 := by
  unfold rkO
  by_cases h : 40 ≤ q
  · rw [if_pos h]; omega
  · rw [if_neg h]
    refine ⟨fun _ => by omega, fun _ => ?_⟩
    repeat' split
    all_goals omega
theorem mk_app (h : Wai r Q) (hr : 1 ≤ r) : mkF (Q ++ P) = mkF P := by
  induction Q with
  | nil => rfl
  | cons q Q ih =>
    have hq := rk_0.mp (Nat.le_trans hr (h q (List.mem_cons_self)).1)
    show (if 40 ≤ q then some q else mkF (Q ++ P)) = _
    rw [if_neg (by omega), ih (fun x hx => h x (List.mem_cons_of_mem _ hx))]
theorem ko_app (h : Wai r Q) (hr : 1 ≤ r) : koF ei (Q ++ P) = koF ei P := by
  unfold koF; rw [mk_app h hr]
theorem cm_app (h : Wai r Q) (hr : 5 ≤ r) : cmpF (Q ++ P) = cmpF P := by
  induction Q with
  | nil => rfl
  | cons q Q ih =>
    have hq := (h q (List.mem_cons_self)).1
    show (if 4 < rkO q then cmpF (Q ++ P) else _) = _
    rw [if_pos (by omega), ih (fun x hx => h x (List.mem_cons_of_mem _ hx))]
theorem Wai.app {A B : List Nat} (a : Wai r A) (b : Wai r B) : Wai r (A ++ B) := fun x hx => (List.mem_append.mp hx).elim (a x) (b x)
theorem Wai.less {r2 : Nat} (a : Wai r Q) (h : r2 ≤ r) : Wai r2 Q := fun x hx => ⟨by have := (a x hx).1; omega, (a x hx).2⟩
theorem Wai.nil : Wai r [] := fun x hx => by cases hx
theorem Wai.one {o : Nat} (h1 : r ≤ rkO o) (h2 : rkO o < 7) : Wai r [o] := fun x hx => by
  rw [List.mem_singleton] at hx
  rw [hx]; exact ⟨h1, h2⟩
theorem qc_app (A B : List Nat) : qcF (A ++ B) = qcF A ++ qcF B := List.map_append
theorem lowP.up {r2 : Nat} (h : lowP r P) (hr : r ≤ r2) : lowP r2 P := by
  cases P with
  | nil => exact True.intro
  | cons q P => have h : rkO q < r := h; show rkO q < r2; omega
/-- behind a number: no way on -/
theorem bt_none (h1 : ¬ (27 ≤ K i ∧ K i ≤ 30)) (h2 : koF ei P = 41 → (cmpF P = false → ¬ (21 ≤ K i ∧ K i ≤ 26)) ∧ (cmpF P = true → ¬ K i = 17 ∧ ¬ K i = 16)) : btwF K ei P i = none := by
  unfold btwF
  rw [if_neg (by omega), if_neg (by omega), if_neg (by omega), if_neg (by omega)]
  by_cases hk : koF ei P = 41
  · rw [if_neg (fun z => z hk)]
    by_cases hc : cmpF P = false
    · rw [if_pos hc, if_neg ((h2 hk).1 hc)]
    · have hc2 : cmpF P = true := by cases hz : cmpF P with
        | true => rfl
        | false => exact absurd hz hc
      have := (h2 hk).2 hc2
      rw [if_neg hc, if_neg this.1, if_neg this.2]
  · rw [if_pos hk]
theorem bh_op {o : Nat} (h : btwF K ei P i = some o) : bhF K ei P cs i = some (o :: (stl (rkO o) P cs).1, (stl (rkO o) P cs).2, false, i + 1) := by
  unfold bhF; rw [h]
theorem bh_none (h : btwF K ei P i = none) (h1 : ¬ (K i = 32 ∧ mkF P = some 40)) (h2 : ¬ (K i = 15 ∧ mkF P = some 43)) (h3 : ¬ (K i = 34 ∧ mkF P = some 41 ∧ cmpF P = true)) (h4 : ¬ (K i = 35 ∧ mkF P = some 42)) : bhF K ei P cs i = none := by
  unfold bhF; rw [h]
  show (if _ then _ else if _ then _ else if _ then _ else if _ then _ else none) = none
  rw [if_neg h1, if_neg h2, if_neg h3, if_neg h4]
end PILE
