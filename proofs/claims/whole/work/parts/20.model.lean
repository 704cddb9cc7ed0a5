/-! the model's state by the same lists -/
def mB (f : Nat) : Nat := [10, 35, 36, 50, 70, 71, 130, 131, 132, 190, 196].getD f 0
def mDl (f : Nat) : Nat := [1, 2, 2, 1, 2, 2, 3, 3, 3, 1, 1].getD f 0
/-- the row at arr (a, or image) holds the lists S, and n texts -/
def MR (I : Nat → Nat → Int32) (arr w h : Nat) (S : Nat → List Nat) (n : Nat) : Prop := (∀ f, f < 11 → (S f).length ≤ cpF w h f ∧ ∀ (k : Nat) v, (S f)[k]? = some v → I arr (mB f + mDl f * k) = nI v) ∧ I arr 0 = nI (S 1).length ∧ I arr 1 = nI n ∧ I arr 2 = nI (S 3).length ∧ I arr 3 = nI (S 4).length ∧ I arr 4 = nI (S 6).length ∧ I arr 5 = nI (S 9).length ∧ I arr 6 = nI (S 10).length
def MM (Z : Zs) (I : Nat → Nat → Int32) (w h : Nat) (S : Nat → List Nat) (tx : List TX) : Prop := Sh Z ∧ wh w h ∧ I 76 2 = nI w ∧ I 76 3 = nI h ∧ MR I 77 w h S tx.length ∧ tx.length ≤ 4 ∧ ∀ (k : Nat) t, tx[k]? = some t → TM Z I k t
theorem CA.kept {Z : Zs} {I I1 : Nat → Nat → Int32} {x0 i : Nat} {cs : List (Nat × Nat)} (h : CA Z I 79 x0 i cs) (e : I1 79 = I 79) : CA Z I1 79 x0 i cs := by
  unfold CA at h ⊢
  rw [e]; exact h
theorem CM.kept {Z : Zs} {I I1 : Nat → Nat → Int32} {t sort : Nat} {Q : List (Nat × Nat) → Prop} {has : Bool} (h : CM Z I t sort Q has) (e : I1 79 = I 79) : CM Z I1 t sort Q has := by
  unfold CM CA at h ⊢
  rw [e]; exact h
theorem MM.kept {Z : Zs} {I I1 : Nat → Nat → Int32} {w h : Nat} {S : Nat → List Nat} {tx : List TX} (k : MM Z I w h S tx) (e : ∀ a, a = 76 ∨ a = 77 ∨ a = 79 → I1 a = I a) : MM Z I1 w h S tx := by
  obtain ⟨k0, k1, k2, k3, k4, k5, k6⟩ := k
  have e6 := e 76 (Or.inl rfl)
  have e7 := e 77 (Or.inr (Or.inl rfl))
  have e9 := e 79 (Or.inr (Or.inr rfl))
  refine ⟨k0, k1, by rw [e6]; exact k2, by rw [e6]; exact k3, by unfold MR at k4 ⊢; rw [e7]; exact k4, k5, fun j t hj => ?_⟩
  obtain ⟨h1, h2, h3⟩ := k6 j t hj
  exact ⟨h1.kept e9, h2.kept e9, h3.kept e9⟩
section MODEL
variable {g : GE} {Z : Zs} {I : Nat → Nat → Int32} {L : Nat → Nat → Int64} {w h : Nat} {S : Nat → List Nat} {tx : List TX}
theorem sp_isIn (x a b : Int32) : Cl g 1 mu_X12_isIn [.int x, .int a, .int b] (Z, I, L) (some (.int (if ¬ x < a ∧ ¬ b < x then 1 else 0))) (Z, I, L) := by
  refine cp_X12_isIn ⟨fun e => ⟨?_, rfl⟩, fun e => ⟨fun f => ⟨?_, rfl⟩, fun f => ⟨?_, rfl⟩⟩⟩
  · rw [if_neg (fun z => z.1 e)]
  · rw [if_neg (fun z => z.2 f)]
  · rw [if_pos ⟨e, f⟩]
/-- between 0 and n - 1 -/
theorem in_iff {x : Int32} {n : Nat} (h0 : 0 < n) (hn : n < 2 ^ 31) : (¬ x < 0 ∧ ¬ nI (n - 1) < x) ↔ (¬ x < 0 ∧ x < nI n) := by
  constructor
  · rintro ⟨h1, h2⟩
    refine ⟨h1, ?_⟩
    obtain ⟨j, hj, rfl⟩ := nI_of h1
    rw [nI_ltI (by omega) hj] at h2
    rw [nI_ltI hj hn]; omega
  · rintro ⟨h1, h2⟩
    refine ⟨h1, ?_⟩
    obtain ⟨j, hj, rfl⟩ := nI_of h1
    rw [nI_ltI hj hn] at h2
    rw [nI_ltI (by omega) hj]; omega
theorem in_0 {x : Int32} : ¬ (¬ x < 0 ∧ ¬ (nI 0 - 1) < x) := by
  rintro ⟨h1, h2⟩
  have h3 : x ≤ nI 0 - 1 := Int32.not_lt.mp h2
  have h4 : (nI 0 - 1 : Int32) < 0 := by decide
  exact h1 (Int32.lt_of_le_of_lt h3 h4)
/-- as isIn(x, 0, n - 1) tells it -/
theorem sp_in0 (x : Int32) {n : Nat} (hn : n < 2 ^ 31) : Cl g 1 mu_X12_isIn [.int x, .int 0, .int (nI n - 1)] (Z, I, L) (some (.int (if ¬ x < 0 ∧ x < nI n then 1 else 0))) (Z, I, L) := by
  have h := sp_isIn (g := g) (Z := Z) (I := I) (L := L) x 0 (nI n - 1)
  by_cases h0 : n = 0
  · subst h0
    rw [if_neg in_0] at h
    rw [if_neg]
    · exact h
    · rintro ⟨h1, h2⟩; exact h1 h2
  · have e : nI n - 1 = nI (n - 1) := pk_sub (b := 1) (by omega)
    rw [e] at h ⊢
    by_cases hc : ¬ x < 0 ∧ x < nI n
    · rw [if_pos ((in_iff (by omega) hn).mpr hc)] at h
      rw [if_pos hc]; exact h
    · rw [if_neg (fun z => hc ((in_iff (by omega) hn).mp z))] at h
      rw [if_neg hc]; exact h
theorem ite01 {c : Prop} [Decidable c] : (if c then (1 : Int32) else 0) = 0 ∨ (if c then (1 : Int32) else 0) = 1 := by
  by_cases h : c
  · rw [if_pos h]; exact Or.inr rfl
  · rw [if_neg h]; exact Or.inl rfl
theorem ms_isCell (k : MM Z I w h S tx) (x : Int32) : Cl g 2 mu_X12_isCell [rf g 76, .int x] (Z, I, L) (some (.int (if ¬ x < 0 ∧ x < nI (w * h) then 1 else 0))) (Z, I, L) := by
  have hm := k.2.1.mul
  refine cp_X12_isCell (k.1.k 76 12 (by decide) (by decide)) ⟨_, ?_, ite01, rfl, rfl⟩
  rw [k.2.2.1, k.2.2.2.1, pk_mul]
  exact sp_in0 x (by omega)
theorem ms_isText (k : MM Z I w h S tx) (x : Int32) : Cl g 2 mu_X12_isText [rf g 76, .int x] (Z, I, L) (some (.int (if ¬ x < 0 ∧ x < nI tx.length then 1 else 0))) (Z, I, L) := by
  have h4 := k.2.2.2.2.2.1
  refine cp_X12_isText (k.1.k 76 12 (by decide) (by decide)) (k.1.r 76 0 77 (by decide)) (k.1.k 77 13 (by decide) (by decide)) ⟨by rw [k.1.n 77 205 (by decide)]; exact vp_in_nI (n := 1) (by decide) (by decide), _, ?_, ite01, rfl, rfl⟩
  rw [show I 77 (1 : Int32).toNatClampNeg = nI tx.length from k.2.2.2.2.1.2.2.1]
  exact sp_in0 x (by omega)
theorem MM.len (k : MM Z I w h S tx) (f : Nat) (hf : f < 11) : (S f).length ≤ cpF w h f := (k.2.2.2.2.1.1 f hf).1
theorem MM.at (k : MM Z I w h S tx) (f : Nat) (hf : f < 11) {j v : Nat} (hj : (S f)[j]? = some v) : I 77 (mB f + mDl f * j) = nI v := (k.2.2.2.2.1.1 f hf).2 j v hj
theorem MM.atD (k : MM Z I w h S tx) (f : Nat) (hf : f < 11) {j : Nat} (hj : j < (S f).length) : I 77 (mB f + mDl f * j) = nI ((S f).getD j 0) := by
  rw [k.at f hf (List.getElem?_eq_getElem hj)]
  simp [List.getD, List.getElem?_eq_getElem hj]
theorem ms_isPair (k : MM Z I w h S tx) (x : Int32) : Cl g 2 mu_X12_isPair [rf g 76, .int x] (Z, I, L) (some (.int (if ¬ x < 0 ∧ x < nI (S 1).length then 1 else 0))) (Z, I, L) := by
  have h4 : (S 1).length ≤ 6 := k.len 1 (by decide)
  refine cp_X12_isPair (k.1.k 76 12 (by decide) (by decide)) (k.1.r 76 0 77 (by decide)) (k.1.k 77 13 (by decide) (by decide)) ⟨by rw [k.1.n 77 205 (by decide)]; exact vp_in_nI (n := 0) (by decide) (by decide), _, ?_, ite01, rfl, rfl⟩
  rw [show I 77 (0 : Int32).toNatClampNeg = nI (S 1).length from k.2.2.2.2.1.2.1]
  exact sp_in0 x (by omega)
theorem ms_isWall (k : MM Z I w h S tx) (hW : WF w h S tx) {c : Nat} (hc : c < w * h) : Cl g 1 mu_X12_isWall [rf g 76, .int (nI c)] (Z, I, L) (some (.int (b2i (decide ((S 0).getD c 0 = 1))))) (Z, I, L) := by
  have hm := k.2.1.mul
  have e1 : (10 : Int32) + nI c = nI (10 + c) := nI_add 10 c
  have e2 : I 77 (10 + c) = nI ((S 0).getD c 0) := by
    have := k.atD 0 (by decide) (j := c) (by rw [hW.1]; exact hc)
    rw [show mB 0 + mDl 0 * c = 10 + c by show 10 + 1 * c = 10 + c; omega] at this
    exact this
  refine cp_X12_isWall (k.1.k 76 12 (by decide) (by decide)) (k.1.r 76 0 77 (by decide)) (k.1.k 77 13 (by decide) (by decide)) ?_
  rw [e1, nI_clamp (by omega), e2, k.1.n 77 205 (by decide)]
  have h3 := getD_le hW.2.1 c
  refine ⟨vp_in_nI (by omega) (by decide), fun e => ⟨?_, rfl⟩, fun e => ⟨?_, rfl⟩⟩
  · have : ¬ (S 0).getD c 0 = 1 := fun z => e (by rw [z]; rfl)
    simp only [this, decide_false]; rfl
  · have : (S 0).getD c 0 = 1 := (nI_eq (b := 1) (by omega) (by decide)).mp e
    simp only [this, decide_true]; rfl
theorem ms_isPose (k : MM Z I w h S tx) (hW : WF w h S tx) (x : Int32) : ∃ b : Bool, Cl g 2 mu_X12_isPose [rf g 76, .int x] (Z, I, L) (some (.int (b2i b))) (Z, I, L) ∧ (b = true ↔ ∃ p, x = nI p ∧ isP w h S p) := by
  have hm := k.2.1.mul
  have hk := k.1.k 76 12 (by decide) (by decide)
  have e0 : ((4 * (I 76 2)) * (I 76 3)) - 1 = nI (4 * (w * h)) - 1 := by
    rw [k.2.2.1, k.2.2.2.1, show (4 : Int32) * nI w = nI (4 * w) from pk_mul 4 w, pk_mul, Nat.mul_assoc]
  have c0 := sp_in0 (g := g) (Z := Z) (I := I) (L := L) x (n := 4 * (w * h)) (by omega)
  rw [← e0] at c0
  by_cases hx : ¬ x < 0 ∧ x < nI (4 * (w * h))
  · rw [if_pos hx] at c0
    obtain ⟨p, hp, rfl⟩ := nI_of hx.1
    have hpl := (nI_ltI hp (by omega)).mp hx.2
    have e4 : nI p / 4 = nI (p / 4) := pk_div (d := 4) hp (by decide) (by decide)
    have cw := ms_isWall (g := g) (L := L) k hW (c := p / 4) (by omega)
    rw [← e4] at cw
    refine ⟨decide ((S 0).getD (p / 4) 0 ≠ 1), cp_X12_isPose hk ⟨_, c0, fun e => absurd e (by decide), fun _ => ⟨_, cw, fun e => ⟨?_, rfl⟩, fun e => ⟨?_, rfl⟩⟩⟩, ?_⟩
    · rw [b2i_0] at e
      have : (S 0).getD (p / 4) 0 = 1 := by simpa using e
      simp only [ne_eq, this, not_true_eq_false, decide_false]; rfl
    · rw [b2i_0] at e
      have : ¬ (S 0).getD (p / 4) 0 = 1 := by simpa using e
      simp only [ne_eq, this, not_false_eq_true, decide_true]; rfl
    · rw [decide_eq_true_iff]
      refine ⟨fun e => ⟨p, rfl, hpl, e⟩, fun ⟨q, h1, h2, h3⟩ => ?_⟩
      have : p = q := (nI_eq hp (by omega)).mp h1
      rw [this]; exact h3
  · rw [if_neg hx] at c0
    refine ⟨false, cp_X12_isPose hk ⟨_, c0, fun _ => ⟨rfl, rfl⟩, fun e => absurd rfl e⟩, ?_⟩
    refine ⟨fun e => (by cases e), fun ⟨p, h1, h2, _⟩ => absurd ⟨?_, ?_⟩ hx⟩
    · rw [h1]; exact nI_pos (by omega)
    · rw [h1, nI_ltI (by omega) (by omega)]; exact h2
theorem ms_ahead (k : MM Z I w h S tx) {p : Nat} (hp : p < 4 * (w * h)) : Cl g 1 mu_X12_ahead [rf g 76, .int (nI p)] (Z, I, L) (some (.int (oI (ahd w h p)))) (Z, I, L) := by
  have hm := k.2.1.mul
  obtain ⟨w1, w2, w3, w4⟩ := k.2.1
  have e4 : nI p / 4 = nI (p / 4) := pk_div (d := 4) (by omega) (by decide) (by decide)
  have er : nI p - nI p / 4 * 4 = nI (p % 4) := pk_rem (d := 4) (by omega) (by decide) (by decide)
  have ew : nI (p / 4) / nI w = nI (p / 4 / w) := pk_div (by omega) (by omega) (by omega)
  have em : nI (p / 4) - nI (p / 4) / nI w * nI w = nI (p / 4 % w) := pk_rem (by omega) (by omega) (by omega)
  have hw0 : ¬ nI w = 0 := nI_ne0 (by omega) (by omega)
  refine cp_X12_ahead (k.1.k 76 12 (by decide) (by decide)) ?_
  rw [k.2.2.1, k.2.2.2.1]
  refine ⟨hw0, fun y2 hy2 => ⟨hw0, fun y4 hy4 y5 hy5 => ?_⟩⟩
  rw [e4, em] at hy2
  rw [e4, ew] at hy4
  rw [er] at hy5
  subst hy2
  subst hy4
  subst hy5
  rw [e4]
  have b1 : p / 4 / w < h := Nat.div_lt_of_lt_mul (by omega)
  have b2 : p / 4 % w < w := Nat.mod_lt _ (by omega)
  have b3 : p / 4 / w < 25 := by have := Nat.div_le_self (p / 4) w; omega
  have ep : ∀ {n m : Nat}, n < 100 → m < 100 → ((nI n = nI m) ↔ n = m) := fun {n m} hn hm => nI_eq (by omega) (by omega)
  have ew1 : nI w - 1 = nI (w - 1) := pk_sub (b := 1) (by omega)
  have eh1 : nI h - 1 = nI (h - 1) := pk_sub (b := 1) (by omega)
  have cs : p % 4 = 0 ∨ p % 4 = 1 ∨ p % 4 = 2 ∨ p % 4 = 3 := by omega
  unfold ahd
  rcases cs with c | c | c | c
  · rw [c]
    refine ⟨fun e => absurd rfl e, fun _ => ⟨fun e => ⟨?_, rfl⟩, fun e => ⟨?_, rfl⟩⟩⟩
    · have h1 : ¬ p / 4 / w = 0 := fun z => e (by rw [z]; rfl)
      have hge : w ≤ p / 4 := by
        have h3 := Nat.div_add_mod (p / 4) w
        have h5 : w * 1 ≤ w * (p / 4 / w) := Nat.mul_le_mul_left w (Nat.pos_of_ne_zero h1)
        omega
      rw [if_pos rfl, if_pos (Nat.pos_of_ne_zero h1), pk_sub hge]; rfl
    · have h1 : p / 4 / w = 0 := (ep (m := 0) (by omega) (by omega)).mp e
      rw [if_pos rfl, if_neg (by omega)]; rfl
  · rw [c, ew1, ep (by omega) (by omega)]
    refine ⟨fun _ => ⟨fun e => absurd rfl e, fun _ => ⟨fun e => ⟨?_, rfl⟩, fun e => ⟨?_, rfl⟩⟩⟩, fun e => absurd e (by decide)⟩
    · rw [if_neg (by decide), if_pos rfl, if_pos (by omega), nI_1]; rfl
    · rw [if_neg (by decide), if_pos rfl, if_neg (by omega)]; rfl
  · rw [c, eh1, ep (n := p / 4 / w) (m := h - 1) (by omega) (by omega)]
    refine ⟨fun _ => ⟨fun _ => ⟨fun e => absurd rfl e, fun _ => ⟨fun e => ⟨?_, rfl⟩, fun e => ⟨?_, rfl⟩⟩⟩, fun e => absurd e (by decide)⟩, fun e => absurd e (by decide)⟩
    · rw [if_neg (by decide), if_neg (by decide), if_pos rfl, if_pos (by omega), nI_add]; rfl
    · rw [if_neg (by decide), if_neg (by decide), if_pos rfl, if_neg (by omega)]; rfl
  · rw [c]
    refine ⟨fun _ => ⟨fun _ => ⟨fun _ => ⟨fun e => ⟨?_, rfl⟩, fun e => ⟨?_, rfl⟩⟩, fun e => absurd e (by decide)⟩, fun e => absurd e (by decide)⟩, fun e => absurd e (by decide)⟩
    · have h1 : ¬ p / 4 % w = 0 := fun z => e (by rw [z]; rfl)
      have hge : 1 ≤ p / 4 := by
        have := Nat.mod_le (p / 4) w
        omega
      rw [if_neg (by decide), if_neg (by decide), if_neg (by decide), if_pos (by omega), show nI (p / 4) - 1 = nI (p / 4 - 1) from pk_sub (b := 1) hge]; rfl
    · have h1 : p / 4 % w = 0 := (ep (m := 0) (by omega) (by omega)).mp e
      rw [if_neg (by decide), if_neg (by decide), if_neg (by decide), if_neg (by omega)]; rfl
end MODEL
