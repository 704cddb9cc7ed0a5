/-! the model's tokens: words and numbers -/
def wvN (l : List Nat) : Nat := l.foldl (fun a c => 256 * a + c) 0
def wvR (l : List Nat) : Nat := l.foldr (fun c a => 256 * a + c) 0
theorem wv_snoc (l : List Nat) (c : Nat) : wvN (l ++ [c]) = 256 * wvN l + c := by
  unfold wvN; rw [List.foldl_append]; rfl
theorem wv_rev (l : List Nat) : wvN l = wvR l.reverse := (List.foldr_reverse).symm
theorem wvR_inj : ∀ (l l' : List Nat), (∀ c ∈ l, 0 < c ∧ c < 256) → (∀ c ∈ l', 0 < c ∧ c < 256) → wvR l = wvR l' → l = l' := by
  intro l
  induction l with
  | nil =>
    intro l' _ h2 he
    cases l' with
    | nil => rfl
    | cons c l' =>
      have := (h2 c List.mem_cons_self).1
      have he : 0 = 256 * wvR l' + c := he
      omega
  | cons c l ih =>
    intro l' h1 h2 he
    have c1 := h1 c List.mem_cons_self
    cases l' with
    | nil =>
      have he : 256 * wvR l + c = 0 := he
      omega
    | cons d l' =>
      have d1 := h2 d List.mem_cons_self
      have he : 256 * wvR l + c = 256 * wvR l' + d := he
      have e1 : c = d := by omega
      have e2 : wvR l = wvR l' := by omega
      rw [e1, ih l' (fun x hx => h1 x (List.mem_cons_of_mem _ hx)) (fun x hx => h2 x (List.mem_cons_of_mem _ hx)) e2]
theorem wv_inj {l l' : List Nat} (h1 : ∀ c ∈ l, 0 < c ∧ c < 256) (h2 : ∀ c ∈ l', 0 < c ∧ c < 256) (he : wvN l = wvN l') : l = l' := by
  rw [wv_rev, wv_rev] at he
  have := wvR_inj _ _ (fun c hc => h1 c (List.mem_reverse.mp hc)) (fun c hc => h2 c (List.mem_reverse.mp hc)) he
  have e := congrArg List.reverse this
  rw [List.reverse_reverse, List.reverse_reverse] at e
  exact e
theorem wvR_lt : ∀ (l : List Nat), (∀ c ∈ l, c < 256) → wvR l < 256 ^ l.length := by
  intro l
  induction l with
  | nil => intro _; show 0 < 1; decide
  | cons c l ih =>
    intro h
    have h1 := h c List.mem_cons_self
    have h2 := ih (fun x hx => h x (List.mem_cons_of_mem _ hx))
    show 256 * wvR l + c < 256 ^ (l.length + 1)
    rw [Nat.pow_succ]
    omega
theorem wv_lt {l : List Nat} (h : ∀ c ∈ l, c < 256) {n : Nat} (hl : l.length ≤ n) : wvN l < 256 ^ n := by
  rw [wv_rev]
  have := wvR_lt l.reverse (fun c hc => h c (List.mem_reverse.mp hc))
  rw [List.length_reverse] at this
  exact Nat.lt_of_lt_of_le this (Nat.pow_le_pow_right (by decide) hl)
theorem nI_64 {c : Nat} (h : c < 2 ^ 31) : (nI c).toInt64 = nJ c := by
  apply Int64.toInt_inj.mp
  rw [Int32.toInt_toInt64, nI_toInt h, nJ_toInt (by omega)]
theorem sh8 {a c : Nat} (ha : a < 2 ^ 48) (hc : c < 256) : (nJ a <<< ((8 : Int32).toInt64 &&& 63)) ||| (nI c).toInt64 = nJ (256 * a + c) := by
  rw [nI_64 (by omega), show ((8 : Int32).toInt64 &&& 63) = (8 : Int64) by decide]
  apply Int64.toBitVec_inj.mp
  show (BitVec.ofNat 64 a <<< 8 ||| BitVec.ofNat 64 c) = BitVec.ofNat 64 (256 * a + c)
  apply BitVec.eq_of_toNat_eq
  rw [BitVec.toNat_or, BitVec.toNat_shiftLeft, BitVec.toNat_ofNat, BitVec.toNat_ofNat, BitVec.toNat_ofNat, Nat.mod_eq_of_lt (show a < 2 ^ 64 by omega), Nat.mod_eq_of_lt (show c < 2 ^ 64 by omega), Nat.mod_eq_of_lt (show 256 * a + c < 2 ^ 64 by omega)]
  have e : a <<< 8 = 256 * a := by rw [Nat.shiftLeft_eq]; omega
  rw [Nat.mod_eq_of_lt (by rw [e]; omega), ← Nat.shiftLeft_add_eq_or_of_lt (show c < 2 ^ 8 by omega), e]
/-- a word as the model writes it -/
def wC (w : Nat) : Int64 := nJ (wvN (spL.getD w []))
theorem sp_byt : ∀ w, w < 19 → ∀ c ∈ spL.getD w [], 0 < c ∧ c < 256 := by decide
theorem sp_l7 : ∀ w, w < 19 → (spL.getD w []).length ≤ 7 ∧ 1 ≤ (spL.getD w []).length := by decide
theorem sp_ne : ∀ w, w < 19 → ∀ v, v < 19 → spL.getD w [] = spL.getD v [] → w = v := by decide +kernel
theorem fi_iff (l : List Nat) : ∀ (d w : Nat), w + d = 19 → (∀ v, v < w → ¬ l = spL.getD v []) → (fiF l d w ≤ 19 ∧ ∀ v, v < 19 → (l = spL.getD v [] ↔ fiF l d w = v)) := by
  intro d
  induction d with
  | zero =>
    intro w hw hn
    have hw : w = 19 := hw
    refine ⟨by show w ≤ 19; omega, fun v hv => ⟨fun e => absurd e (hn v (by omega)), fun e => ?_⟩⟩
    have e : w = v := e
    omega
  | succ d ih =>
    intro w hw hn
    show (if l = spL.getD w [] then w else fiF l d (w + 1)) ≤ 19 ∧ ∀ v, v < 19 → (l = spL.getD v [] ↔ (if l = spL.getD w [] then w else fiF l d (w + 1)) = v)
    by_cases h : l = spL.getD w []
    · rw [if_pos h]
      exact ⟨by omega, fun v hv => ⟨fun e => sp_ne w (by omega) v hv (h.symm.trans e), fun e => by rw [← e]; exact h⟩⟩
    · rw [if_neg h]
      refine ih (w + 1) (by omega) (fun v hv => ?_)
      by_cases he : v = w
      · rw [he]; exact h
      · exact hn v (by omega)
theorem wd_iff (l : List Nat) : wdF l ≤ 19 ∧ ∀ v, v < 19 → (l = spL.getD v [] ↔ wdF l = v) := fi_iff l 19 0 rfl (fun v hv => absurd hv (by omega))
/-- which word a token is: 36 is none -/
def wxF (k v : Nat) : Nat := if k = 20 then v else k
theorem wx_of {w : Nat} (h : w ≤ 19) : ∀ v, v < 19 → (w = v ↔ wxF (wkF w) (wvF w) = v) := by
  intro v hv
  unfold wxF wkF wvF
  by_cases h1 : w < 11
  · rw [if_pos h1, if_pos h1, if_pos rfl]
  · rw [if_neg h1, if_neg h1]
    by_cases h2 : w < 19
    · rw [if_pos h2, if_neg (by omega)]
    · rw [if_neg h2, if_neg (by omega)]; omega
/-- the code of a token of the model -/
def tcL : List Nat := [2, 2, 2, 2, 2, 2, 2, 2, 2, 2, 2, 2, 2, 2, 2, 2, 2, 2, 2, 1, 2, 60, 4, 62, 5, 61, 35, 43, 45, 42, 47, 40, 41, 59, 63, 58, 3, 0]
def NRz (v m : Nat) : Prop := (v ≤ 9999 ∧ m = v) ∨ (v = 10000 ∧ 10000 ≤ m ∧ m ≤ 1000000)
def TokM (I : Nat → Nat → Int32) (L : Nat → Nat → Int64) (k v : Nat) : Prop := ∃ t, I 76 11 = nI t ∧ t < 100 ∧ (¬ k = 36 → t = tcL.getD k 0) ∧ (k = 36 → t = 2 ∨ t = 3 ∨ t = 44) ∧ (k = 19 → ∃ m, I 76 12 = nI m ∧ NRz v m) ∧ (t = 2 → ∀ w, w < 19 → (L 76 13 = wC w ↔ wxF k v = w))
def NFz (I I1 : Nat → Nat → Int32) : Prop := (∀ a, a ≠ 76 → I1 a = I a) ∧ ∀ q, ¬ (9 ≤ q ∧ q ≤ 12) → I1 76 q = I 76 q
theorem NFz.refl (I : Nat → Nat → Int32) : NFz I I := ⟨fun _ _ => rfl, fun _ _ => rfl⟩
theorem NFz.trans {I I1 I2 : Nat → Nat → Int32} (a : NFz I I1) (b : NFz I1 I2) : NFz I I2 := ⟨fun q h => by rw [b.1 q h, a.1 q h], fun q h => by rw [b.2 q h, a.2 q h]⟩
theorem NFz.put (I : Nat → Nat → Int32) {q : Nat} (h1 : 9 ≤ q) (h2 : q ≤ 12) (x : Int32) : NFz I (rw1 I 76 (upd (I 76) q x)) := ⟨fun a ha => rw1_n _ _ ha, fun p hp => by rw [rw1_s, upd_n _ _ (by omega)]⟩
theorem MT.nf {I I1 : Nat → Nat → Int32} {tp : List Nat} (h : MT I tp) (n : NFz I I1) : MT I1 tp := ⟨by rw [n.2 6 (by omega)]; exact h.1, h.2.1, fun k v hk => by rw [n.1 80 (by decide)]; exact h.2.2 k v hk⟩
def bAt (tp : List Nat) (p : Nat) : Int32 := if p < tp.length then nI (tp.getD p 0) else -1
section MLEX
variable {g : GE} {Z : Zs} {I : Nat → Nat → Int32} {L : Nat → Nat → Int64} {tp : List Nat}
theorem sp_byteAt (hS : Sh Z) (hT : MT I tp) {p : Nat} (hp : p < 2 ^ 30) : Cl g 1 mu_X12_byteAt [rf g 76, .int (nI p)] (Z, I, L) (some (.int (bAt tp p))) (Z, I, L) := by
  have hl := hT.2.1
  refine cp_X12_byteAt (hS.k 76 12 (by decide) (by decide)) (hS.r 76 5 80 (by decide)) (hS.k 80 13 (by decide) (by decide)) ⟨fun e => ⟨?_, rfl⟩, fun e => ⟨?_, ?_, rfl⟩⟩
  · rw [hT.1, nI_leI (by omega) (by omega)] at e
    unfold bAt; rw [if_neg (by omega)]
  · rw [hT.1, nI_leI (by omega) (by omega)] at e
    rw [hS.n 80 300 (by decide)]; exact vp_in_nI (by omega) (by decide)
  · rw [hT.1, nI_leI (by omega) (by omega)] at e
    unfold bAt; rw [if_pos (by omega), nI_clamp (by omega)]
    have hp2 : p < tp.length := by omega
    rw [hT.2.2 p (tp.getD p 0) (by rw [List.getD_eq_getElem?_getD, List.getElem?_eq_getElem hp2]; rfl)]
theorem bAt_in (h8 : T8 tp) (p : Nat) {a b : Nat} (ha : 0 < a) (hb : b < 256) (ha2 : a < 256) : (if ¬ bAt tp p < nI a ∧ ¬ nI b < bAt tp p then (1 : Int32) else 0) = b2i (decide (a ≤ tp.getD p 0) && decide (tp.getD p 0 ≤ b)) := by
  have h := h8.at p
  unfold bAt
  by_cases hp : p < tp.length
  · rw [if_pos hp]
    have l1 : nI (tp.getD p 0) < nI a ↔ tp.getD p 0 < a := nI_ltI (by omega) (by omega)
    have l2 : nI b < nI (tp.getD p 0) ↔ b < tp.getD p 0 := nI_ltI (by omega) (by omega)
    by_cases x : a ≤ tp.getD p 0
    · by_cases y : tp.getD p 0 ≤ b
      · rw [if_pos ⟨fun z => by have := l1.mp z; omega, fun z => by have := l2.mp z; omega⟩, decide_eq_true x, decide_eq_true y]; rfl
      · rw [if_neg (fun z => z.2 (l2.mpr (by omega))), decide_eq_false y, Bool.and_false]; rfl
    · rw [if_neg (fun z => z.1 (l1.mpr (by omega))), decide_eq_false x]; rfl
  · rw [if_neg hp, if_neg (fun z => z.1 (Int32.lt_of_lt_of_le (show (-1 : Int32) < 0 by decide) (by rw [← nI_0]; exact nI_le (by omega) (by omega)))), List.getD_eq_getElem?_getD, List.getElem?_eq_none (by omega), decide_eq_false (by show ¬ a ≤ 0; omega)]; rfl
theorem sp_mDg (h8 : T8 tp) (p : Nat) : Cl g 2 mu_X12_isDigit [.int (bAt tp p)] (Z, I, L) (some (.int (b2i (isDg (tp.getD p 0))))) (Z, I, L) := by
  have h := sp_isIn (g := g) (Z := Z) (I := I) (L := L) (bAt tp p) 48 57
  have e : (if ¬ bAt tp p < 48 ∧ ¬ 57 < bAt tp p then (1 : Int32) else 0) = b2i (isDg (tp.getD p 0)) := bAt_in h8 p (a := 48) (b := 57) (by decide) (by decide) (by decide)
  rw [e] at h
  have o : b2i (isDg (tp.getD p 0)) = 0 ∨ b2i (isDg (tp.getD p 0)) = 1 := by
    cases isDg (tp.getD p 0) with
    | false => exact Or.inl rfl
    | true => exact Or.inr rfl
  exact cp_X12_isDigit ⟨_, h, o, rfl, rfl⟩
theorem sp_mLt (h8 : T8 tp) (p : Nat) : Cl g 2 mu_X12_isLetter [.int (bAt tp p)] (Z, I, L) (some (.int (b2i (isLt (tp.getD p 0))))) (Z, I, L) := by
  have h := sp_isIn (g := g) (Z := Z) (I := I) (L := L) (bAt tp p) 97 122
  have e : (if ¬ bAt tp p < 97 ∧ ¬ 122 < bAt tp p then (1 : Int32) else 0) = b2i (decide (97 ≤ tp.getD p 0) && decide (tp.getD p 0 ≤ 122)) := bAt_in h8 p (a := 97) (b := 122) (by decide) (by decide) (by decide)
  have h2 := sp_isIn (g := g) (Z := Z) (I := I) (L := L) (bAt tp p) 65 90
  have e2 : (if ¬ bAt tp p < 65 ∧ ¬ 90 < bAt tp p then (1 : Int32) else 0) = b2i (decide (65 ≤ tp.getD p 0) && decide (tp.getD p 0 ≤ 90)) := bAt_in h8 p (a := 65) (b := 90) (by decide) (by decide) (by decide)
  rw [e] at h
  rw [e2] at h2
  unfold isLt
  cases x : (decide (97 ≤ tp.getD p 0) && decide (tp.getD p 0 ≤ 122)) with
  | true => rw [x] at h; exact cp_X12_isLetter ⟨_, h, fun _ => ⟨rfl, rfl⟩, fun z => absurd z (by decide)⟩
  | false =>
    rw [x] at h
    cases y : (decide (65 ≤ tp.getD p 0) && decide (tp.getD p 0 ≤ 90)) with
    | true => rw [y] at h2; exact cp_X12_isLetter ⟨_, h, fun z => absurd rfl z, fun _ => ⟨_, h2, fun z => absurd z (by decide), fun _ => ⟨rfl, rfl⟩⟩⟩
    | false => rw [y] at h2; exact cp_X12_isLetter ⟨_, h, fun z => absurd rfl z, fun _ => ⟨_, h2, fun _ => ⟨rfl, rfl⟩, fun z => absurd rfl z⟩⟩
end MLEX
