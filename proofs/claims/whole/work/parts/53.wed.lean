/-! wed(): who asks whom, by the two sides' likings A (who asks) and B (who is asked) -/
/-- asked (6 * one + other), whom an asker has, whom an asked one keeps -/
abbrev WT : Type := (Nat → Bool) × (Nat → Option Nat) × (Nat → Option Nat)
def bsF (Q : Nat → Bool) (A : Nat → Nat → Int32) (i : Nat) : Nat → Nat → Option Nat → Option Nat
  | 0, _, b => b
  | d + 1, j, b => bsF Q A i d (j + 1) (if Q (6 * i + j) then b else match b with
    | none => some j
    | some o => if A i j ≤ A i o then some o else some j)
def refB (B : Nat → Nat → Int32) (i o rv : Nat) : Bool := decide (B o i < B o rv) || (decide (B o i = B o rv) && decide (rv < i))
def ansF (B : Nat → Nat → Int32) (s : WT) (i o : Nat) : WT := match s.2.2 o with
  | none => (rw1 s.1 (6 * i + o) true, rw1 s.2.1 i (some o), rw1 s.2.2 o (some i))
  | some rv => if refB B i o rv then (rw1 s.1 (6 * i + o) true, s.2.1, s.2.2) else (rw1 s.1 (6 * i + o) true, rw1 (rw1 s.2.1 rv none) i (some o), rw1 s.2.2 o (some i))
def oneF (A B : Nat → Nat → Int32) (n2 : Nat) (s : WT) : Nat → Nat → WT
  | 0, _ => s
  | d + 1, i => if (s.2.1 i).isSome then oneF A B n2 s d (i + 1) else match bsF s.1 A i n2 0 none with
    | none => oneF A B n2 s d (i + 1)
    | some o => ansF B s i o
def itF (A B : Nat → Nat → Int32) (n1 n2 : Nat) : Nat → WT → WT
  | 0, s => s
  | c + 1, s => itF A B n1 n2 c (oneF A B n2 s n1 0)
def cnt (Q : Nat → Bool) : Nat := sm 36 (fun k => if Q k then 0 else 1)
/-- what askings keep -/
def wok (n1 n2 : Nat) (s : WT) : Prop := (∀ i o, s.2.1 i = some o → o < n2) ∧ (∀ o i, s.2.2 o = some i → i < n1 ∧ s.1 (6 * i + o) = true)
def idl (A : Nat → Nat → Int32) (n2 : Nat) (s : WT) (i : Nat) : Prop := (s.2.1 i).isSome = true ∨ bsF s.1 A i n2 0 none = none
section WED
variable {A B : Nat → Nat → Int32} {n1 n2 : Nat} {s : WT}
theorem bs_in {Q : Nat → Bool} {i : Nat} : ∀ (d j : Nat) (b : Option Nat), (∀ o, b = some o → o < n2 ∧ Q (6 * i + o) = false) → j + d = n2 → ∀ o, bsF Q A i d j b = some o → o < n2 ∧ Q (6 * i + o) = false := by
  intro d
  induction d with
  | zero => intro j b hb _ o ho; exact hb o ho
  | succ d ih =>
    intro j b hb hj o ho
    refine ih (j + 1) _ (fun o' ho' => ?_) (by omega) o ho
    by_cases hq : Q (6 * i + j) = true
    · rw [if_pos hq] at ho'
      exact hb o' ho'
    · rw [if_neg hq] at ho'
      have hqf : Q (6 * i + j) = false := by cases hx : Q (6 * i + j) with
        | true => exact absurd hx hq
        | false => rfl
      cases b with
      | none =>
        have : j = o' := Option.some.inj ho'
        subst this
        exact ⟨by omega, hqf⟩
      | some o1 =>
        replace ho' : (if A i j ≤ A i o1 then some o1 else some j) = some o' := ho'
        split at ho'
        · exact hb o' (by rw [← ho'])
        · have : j = o' := Option.some.inj ho'
          subst this
          exact ⟨by omega, hqf⟩
theorem bs_ok {Q : Nat → Bool} {i o : Nat} (h : bsF Q A i n2 0 none = some o) : o < n2 ∧ Q (6 * i + o) = false := bs_in n2 0 none (fun o h => by cases h) (Nat.zero_add _) o h
theorem one_skip {d i : Nat} (h : idl A n2 s i) : oneF A B n2 s (d + 1) i = oneF A B n2 s d (i + 1) := by
  show (if (s.2.1 i).isSome then oneF A B n2 s d (i + 1) else match bsF s.1 A i n2 0 none with
    | none => oneF A B n2 s d (i + 1)
    | some o => ansF B s i o) = _
  rcases h with h | h
  · rw [if_pos h]
  · rw [h]; split <;> rfl
theorem one_do {d i o : Nat} (h1 : s.2.1 i = none) (h2 : bsF s.1 A i n2 0 none = some o) : oneF A B n2 s (d + 1) i = ansF B s i o := by
  show (if (s.2.1 i).isSome then oneF A B n2 s d (i + 1) else match bsF s.1 A i n2 0 none with
    | none => oneF A B n2 s d (i + 1)
    | some o => ansF B s i o) = _
  rw [h1, h2]; rfl
theorem one_at : ∀ {d i : Nat} (m : Nat), (∀ j, i ≤ j → j < i + m → idl A n2 s j) → oneF A B n2 s (m + d) i = oneF A B n2 s d (i + m) := by
  intro d i m
  induction m generalizing i with
  | zero => intro _; rw [Nat.zero_add]; rfl
  | succ m ih =>
    intro h
    rw [show m + 1 + d = (m + d) + 1 by omega, one_skip (h i (Nat.le_refl _) (by omega)), ih (fun j h1 h2 => h j (by omega) (by omega)), show i + 1 + m = i + (m + 1) by omega]
theorem one_idle (h : ∀ j, j < n1 → idl A n2 s j) : oneF A B n2 s n1 0 = s := by
  have := one_at (A := A) (B := B) (n2 := n2) (s := s) (d := 0) (i := 0) n1 (fun j _ h2 => h j (by omega))
  rw [Nat.add_zero] at this
  rw [this]; rfl
theorem it_idle (h : ∀ j, j < n1 → idl A n2 s j) : ∀ c, itF A B n1 n2 c s = s := by
  intro c
  induction c with
  | zero => rfl
  | succ c ih =>
    show itF A B n1 n2 c (oneF A B n2 s n1 0) = s
    rw [one_idle h]; exact ih
theorem it_do {c i o : Nat} (hi : i < n1) (h : ∀ j, j < i → idl A n2 s j) (h1 : s.2.1 i = none) (h2 : bsF s.1 A i n2 0 none = some o) : itF A B n1 n2 (c + 1) s = itF A B n1 n2 c (ansF B s i o) := by
  show itF A B n1 n2 c (oneF A B n2 s n1 0) = _
  have e : n1 = i + ((n1 - i - 1) + 1) := by omega
  rw [show oneF A B n2 s n1 0 = ansF B s i o from by
    rw [e, one_at i (fun j _ h3 => h j (by omega)), Nat.zero_add, one_do h1 h2]]
theorem ans_Q {i o : Nat} : (ansF B s i o).1 = rw1 s.1 (6 * i + o) true := by
  unfold ansF
  split
  · rfl
  · split <;> rfl
theorem cnt_ans {i o : Nat} (hi : i < 6) (ho : o < 6) (hQ : s.1 (6 * i + o) = false) : cnt (ansF B s i o).1 + 1 = cnt s.1 := by
  rw [ans_Q]
  unfold cnt
  rw [← sm_add (n := 36) (s := 6 * i + o) (x := 1) (by omega)]
  refine sm_same (fun k _ => ?_)
  unfold addF
  by_cases hk : k = 6 * i + o
  · rw [hk, rw1_s]
    show (if rw1 s.1 (6 * i + o) true (6 * i + o) = true then 0 else 1) + 1 = (if s.1 (6 * i + o) = true then 0 else 1)
    rw [rw1_s, if_pos rfl, if_neg (by rw [hQ]; decide)]
  · rw [rw1_n _ _ hk]
    rw [rw1_n _ _ hk]
theorem wok_ans {i o : Nat} (hi : i < n1) (ho : o < n2) (hn1 : n1 ≤ 6) (hn2 : n2 ≤ 6) (h : wok n1 n2 s) : wok n1 n2 (ansF B s i o) := by
  obtain ⟨h1, h2⟩ := h
  have hq : ∀ o' i', s.2.2 o' = some i' → i' < n1 ∧ rw1 s.1 (6 * i + o) true (6 * i' + o') = true := fun o' i' hp => by
    obtain ⟨q1, q2⟩ := h2 o' i' hp
    refine ⟨q1, ?_⟩
    by_cases e : 6 * i' + o' = 6 * i + o
    · rw [e, rw1_s]
    · rw [rw1_n _ _ e]; exact q2
  have hp : ∀ o' i', rw1 s.2.2 o (some i) o' = some i' → i' < n1 ∧ rw1 s.1 (6 * i + o) true (6 * i' + o') = true := fun o' i' hp => by
    by_cases e : o' = o
    · subst e
      rw [rw1_s] at hp
      have := Option.some.inj hp
      subst this
      exact ⟨hi, rw1_s _ _ _⟩
    · rw [rw1_n _ _ e] at hp
      exact hq o' i' hp
  unfold ansF
  split
  · refine ⟨fun i' o' hk => ?_, hp⟩
    replace hk : rw1 s.2.1 i (some o) i' = some o' := hk
    by_cases e : i' = i
    · rw [e, rw1_s] at hk; have := Option.some.inj hk; omega
    · rw [rw1_n _ _ e] at hk; exact h1 i' o' hk
  · rename_i rv _
    split
    · exact ⟨h1, hq⟩
    · refine ⟨fun i' o' hk => ?_, hp⟩
      replace hk : rw1 (rw1 s.2.1 rv none) i (some o) i' = some o' := hk
      by_cases e : i' = i
      · rw [e, rw1_s] at hk; have := Option.some.inj hk; omega
      · rw [rw1_n _ _ e] at hk
        by_cases e2 : i' = rv
        · rw [e2, rw1_s] at hk; cases hk
        · rw [rw1_n _ _ e2] at hk; exact h1 i' o' hk
theorem wok_one (hn1 : n1 ≤ 6) (hn2 : n2 ≤ 6) (h : wok n1 n2 s) : ∀ (d i : Nat), i + d = n1 → wok n1 n2 (oneF A B n2 s d i) := by
  intro d
  induction d with
  | zero => intro i _; exact h
  | succ d ih =>
    intro i hi
    show wok n1 n2 (if (s.2.1 i).isSome then oneF A B n2 s d (i + 1) else match bsF s.1 A i n2 0 none with
      | none => oneF A B n2 s d (i + 1)
      | some o => ansF B s i o)
    split
    · exact ih (i + 1) (by omega)
    · cases hb : bsF s.1 A i n2 0 none with
      | none => exact ih (i + 1) (by omega)
      | some o => exact wok_ans (by omega) (bs_ok hb).1 hn1 hn2 h
end WED
/-- nobody has asked, nobody has anybody -/
def s0W : WT := (fun _ => false, fun _ => none, fun _ => none)
theorem s0W_ok (n1 n2 : Nat) : wok n1 n2 s0W := ⟨fun _ _ h => (by cases h), fun _ _ h => (by cases h)⟩
theorem s0W_cnt : cnt s0W.1 = 36 := rfl
/-- a liking -/
def envL (S : Nat → List Nat) (r c side : Nat) : Nat → Int32 := fun k => if k = 6 then nI r else if k = 7 then nI c else if k = 8 then nI ((S 9).getD r 0) else if k = 9 then nI ((S 10).getD c 0) else if k = 10 then nI side else 0
def lkF (t : TX) (S : Nat → List Nat) (r c side : Nat) : Int32 := match t.2.2 with
  | none => 0
  | some f => f (envL S r c side)
def asL (t : TX) (S : Nat → List Nat) (side i o : Nat) : Int32 := if side = 0 then lkF t S i o 0 else lkF t S o i 1
def akL (t : TX) (S : Nat → List Nat) (side o i : Nat) : Int32 := if side = 0 then lkF t S i o 1 else lkF t S o i 0
def nAsk (S : Nat → List Nat) (side : Nat) : Nat := if side = 0 then (S 9).length else (S 10).length
def nAkd (S : Nat → List Nat) (side : Nat) : Nat := if side = 0 then (S 10).length else (S 9).length
def wedF (t : TX) (S : Nat → List Nat) (side rider : Nat) : Option Nat := if side = 0 then (itF (asL t S side) (akL t S side) (nAsk S side) (nAkd S side) 36 s0W).2.1 rider else (itF (asL t S side) (akL t S side) (nAsk S side) (nAkd S side) 36 s0W).2.2 rider
/-- all the likings of a text are small -/
def lkR (t : TX) (S : Nat → List Nat) : Prop := ∀ r c side, r < 6 → c < 6 → side < 2 → rg (lkF t S r c side)
theorem Wn.rg {env : Nat → Int32} (he : ∀ j, j < 11 → rg (env j)) : ∀ {cs : List (Nat × Nat)} {vs ts vs' ts'}, (∀ x ∈ vs, rg x) → Wn env cs vs ts vs' ts' → ∀ x ∈ vs', rg x := by
  intro cs
  induction cs with
  | nil => intro vs ts vs' ts' h k; obtain ⟨rfl, -⟩ := k; exact h
  | cons q cs ih =>
    intro vs ts vs' ts' h k
    obtain ⟨v1, t1, k1, k2⟩ := k
    refine ih ?_ k2
    rcases k1 with ⟨-, hv, rfl, -, -⟩ | ⟨-, hv, rfl, -, -⟩ | ⟨-, t, x, rfl, rfl, -⟩ | ⟨-, -, t, x, y, rfl, rfl, -⟩ | ⟨-, -, x, y, rfl, -, -⟩ | ⟨-, t, b, -, -, rfl⟩ | ⟨-, t, a, b, -, -, rfl⟩ | ⟨-, t, a, b, -, -, rfl⟩ | ⟨-, t, x, y, b, rfl, -, rfl⟩
    · intro z hz
      rcases List.mem_append.mp hz with hz | hz
      · exact h z hz
      · rw [List.mem_singleton.mp hz]; exact rg_n hv
    · intro z hz
      rcases List.mem_append.mp hz with hz | hz
      · exact h z hz
      · rw [List.mem_singleton.mp hz]; exact he _ hv
    · intro z hz
      rcases List.mem_append.mp hz with hz | hz
      · exact h z (List.mem_append_left _ hz)
      · rw [List.mem_singleton.mp hz]; exact (rg_neg (h x (List.mem_append_right _ (List.mem_singleton.mpr rfl)))).1
    · intro z hz
      rcases List.mem_append.mp hz with hz | hz
      · exact h z (List.mem_append_left _ (List.mem_append_left _ hz))
      · rw [List.mem_singleton.mp hz]; exact hjF_rg _ _ _
    · intro z hz
      exact h z (List.mem_append_left _ (List.mem_append_left _ hz))
    · exact h
    · exact h
    · exact h
    · intro z hz
      rcases List.mem_append.mp hz with hz | hz
      · exact h z (List.mem_append_left _ (List.mem_append_left _ hz))
      · rw [List.mem_singleton.mp hz]
        split
        · exact h x (List.mem_append_left _ (List.mem_append_right _ (List.mem_singleton.mpr rfl)))
        · exact h y (List.mem_append_right _ (List.mem_singleton.mpr rfl))
theorem envL_rg {w h : Nat} {S : Nat → List Nat} {tx : List TX} (hW : WF w h S tx) {r c side : Nat} (hr : r < 6) (hc : c < 6) (hs : side < 2) (j : Nat) : rg (envL S r c side j) := by
  have h9 := getD_le hW.2.2.2.2.2.2.2.2.2.2.2.2.2.2.1 r
  have h10 := getD_le hW.2.2.2.2.2.2.2.2.2.2.2.2.2.2.2.1 c
  unfold envL
  split
  · exact rg_n (by omega)
  split
  · exact rg_n (by omega)
  split
  · exact rg_n (by omega)
  split
  · exact rg_n (by omega)
  split
  · exact rg_n (by omega)
  · exact rg_n (v := 0) (by omega)
/-- by the model's codes a text's likings are small -/
theorem lkR_of {Z : Zs} {I : Nat → Nat → Int32} {w h k : Nat} {S : Nat → List Nat} {tx : List TX} {t : TX} (hW : WF w h S tx) (hT : TM Z I k t) : lkR t S := fun r c side hr hc hs => by
  unfold lkF
  cases hf : t.2.2 with
  | none => exact rg_n (v := 0) (by omega)
  | some f =>
    obtain ⟨nc, h1, h2, h3, h4⟩ := hT.2.2
    obtain ⟨k, i, cs, -, -, -, -, -, -, -, hQ⟩ := h4 (by rw [hf]; rfl)
    exact Wn.rg (fun j _ => envL_rg hW hr hc hs j) (fun x hx => by cases hx) (hQ f hf (envL S r c side) (fun j _ => envL_rg hW hr hc hs j)) _ (List.mem_singleton.mpr rfl)
