/-! holds(), on both sides -/
def pB (w h : Nat) (S : Nat → List Nat) (p : Nat) : Bool := decide (p < 4 * (w * h)) && !decide ((S 0).getD (p / 4) 0 = 1)
theorem pB_iff {w h : Nat} {S : Nat → List Nat} {p : Nat} : pB w h S p = true ↔ isP w h S p := by unfold pB isP; simp
theorem pB_t {w h : Nat} {S : Nat → List Nat} {p : Nat} (k : isP w h S p) : pB w h S p = true := pB_iff.mpr k
theorem pB_f {w h : Nat} {S : Nat → List Nat} {p : Nat} (k : ¬ isP w h S p) : pB w h S p = false := by
  rcases e : pB w h S p with _ | _
  · rfl
  · exact absurd (pB_iff.mp e) k
/-- one walk that was seen holds for a text -/
def okAt (w h : Nat) (S : Nat → List Nat) (t : TX) (j : Nat) : Bool := pB w h S ((S 6).getD j 0) && pB w h S ((S 8).getD j 0) && decide (stepF w h (S 0) t ((S 6).getD j 0) ((S 7).getD j 0) % 200 = (S 8).getD j 0)
def hB (w h : Nat) (S : Nat → List Nat) (t : TX) : Nat → Nat → Bool
  | 0, _ => true
  | d + 1, j => okAt w h S t j && hB w h S t d (j + 1)
def holdsF (w h : Nat) (S : Nat → List Nat) : List TX → Nat → Int32 → Int32
  | [], _, acc => acc
  | t :: ts, j, acc => holdsF w h S ts (j + 1) (if hB w h S t (S 6).length 0 then acc ||| (1 <<< (nI j &&& 31)) else acc)
section HOLDS
variable {g : GE} {Z : Zs} {I : Nat → Nat → Int32} {L : Nat → Nat → Int64} {w h : Nat} {S : Nat → List Nat} {tx : List TX}
theorem c_isPose (k : CS Z I w h S tx) (hW : WF w h S tx) {p : Nat} (hp : p < 2 ^ 31) : Cl g 2 mu_X8_isPose [rf g 18, .int (nI p)] (Z, I, L) (some (.int (b2i (pB w h S p)))) (Z, I, L) := by
  obtain ⟨b, p1, p2⟩ := sp_isPose (g := g) (L := L) k hW (nI p)
  have hm := k.2.1.mul
  have : b = pB w h S p := by
    rw [Bool.eq_iff_iff, p2, pB_iff]
    constructor
    · rintro ⟨p', e, hp'⟩
      have : p = p' := (nI_eq hp (by have := hp'.1; omega)).mp e
      rw [this]; exact hp'
    · exact fun z => ⟨p, rfl, z⟩
  rw [← this]; exact p1
theorem m_isPose (k : MM Z I w h S tx) (hW : WF w h S tx) {p : Nat} (hp : p < 2 ^ 31) : Cl g 2 mu_X12_isPose [rf g 76, .int (nI p)] (Z, I, L) (some (.int (b2i (pB w h S p)))) (Z, I, L) := by
  obtain ⟨b, p1, p2⟩ := ms_isPose (g := g) (L := L) k hW (nI p)
  have hm := k.2.1.mul
  have : b = pB w h S p := by
    rw [Bool.eq_iff_iff, p2, pB_iff]
    constructor
    · rintro ⟨p', e, hp'⟩
      have : p = p' := (nI_eq hp (by have := hp'.1; omega)).mp e
      rw [this]; exact hp'
    · exact fun z => ⟨p, rfl, z⟩
  rw [← this]; exact p1
theorem getD_ok {P : Nat → Prop} {xs : List Nat} (hP : ∀ (k : Nat) v, xs[k]? = some v → P v) {j : Nat} (hj : j < xs.length) : P (xs.getD j 0) := hP j _ (by rw [List.getElem?_eq_getElem hj]; simp [List.getD, List.getElem?_eq_getElem hj])
theorem as_run {hb : Nat} {t : TX} : ∀ (d j : Nat) (I : Nat → Nat → Int32), CL Z I w h S tx → tx[hb]? = some t → j + d = (S 6).length →
    ∃ I1, Lp_X11_isAllSeenBy_2 g 6 0 (nI hb) (nI j) (Z, I, L) (some (.int (b2i (hB w h S t d j)))) (Z, I1, L) ∧ CL Z I1 w h S tx ∧ ∀ a, ¬ nowA a → I1 a = I a := by
  intro d
  induction d with
  | zero =>
    intro j I c htx hj
    obtain ⟨k, hW, -⟩ := id c
    have hl6 : (S 6).length ≤ 20 := (k.il 6 (by decide)).2.2.2.2.2.1
    refine ⟨I, wp_X11_isAllSeenBy_2 (k.1.k 0 11 (by decide) (by decide)) (k.1.r 0 0 18 (by decide)) (k.1.k 18 8 (by decide) (by decide)) (k.1.r 18 8 29 (by decide)) (k.1.k 29 2 (by decide) (by decide)) (k.1.r 18 10 33 (by decide)) (k.1.k 33 2 (by decide) (by decide)) (k.1.r 0 5 66 (by decide)) (k.1.k 66 3 (by decide) (by decide)) (k.1.r 18 9 31 (by decide)) (k.1.k 31 2 (by decide) (by decide)) ⟨_, sp_size (k.il 6 (by decide)), fun _ => ⟨rfl, rfl⟩, fun e => absurd (nI_le (show (S 6).length ≤ j by omega) (by omega)) e⟩, c, fun _ _ => rfl⟩
  | succ d ih =>
    intro j I c htx hj
    obtain ⟨k, hW, -⟩ := id c
    have hm := k.2.1.mul
    have hl6 : (S 6).length ≤ 20 := (k.il 6 (by decide)).2.2.2.2.2.1
    have l7 : (S 6).length = (S 7).length := hW.2.2.2.2.2.2.2.2.2.1
    have l8 : (S 6).length = (S 8).length := hW.2.2.2.2.2.2.2.2.2.2.1
    have hjl : j < (S 6).length := by omega
    have b6 := getD_ok hW.2.2.2.2.2.2.2.2.2.2.2.1 hjl
    have b7 := getD_ok hW.2.2.2.2.2.2.2.2.2.2.2.2.1 (show j < (S 7).length by omega)
    have b8 := getD_ok hW.2.2.2.2.2.2.2.2.2.2.2.2.2.1 (show j < (S 8).length by omega)
    have a6 := sp_at (g := g) (L := L) (k.il 6 (by decide)) (nI j)
    rw [atL_n _ (by omega)] at a6
    have a7 := sp_at (g := g) (L := L) (k.il 7 (by decide)) (nI j)
    rw [atL_n _ (by omega)] at a7
    have a8 := sp_at (g := g) (L := L) (k.il 8 (by decide)) (nI j)
    rw [atL_n _ (by omega)] at a8
    have mk := fun (r : Option Value) (M' : Mem) => @wp_X11_isAllSeenBy_2 g Z I L r M' 0 (nI hb) (nI j) 18 29 33 66 31 (k.1.k 0 11 (by decide) (by decide)) (k.1.r 0 0 18 (by decide)) (k.1.k 18 8 (by decide) (by decide)) (k.1.r 18 8 29 (by decide)) (k.1.k 29 2 (by decide) (by decide)) (k.1.r 18 10 33 (by decide)) (k.1.k 33 2 (by decide) (by decide)) (k.1.r 0 5 66 (by decide)) (k.1.k 66 3 (by decide) (by decide)) (k.1.r 18 9 31 (by decide)) (k.1.k 31 2 (by decide) (by decide))
    have p6 := c_isPose (g := g) (L := L) k hW (p := (S 6).getD j 0) (by omega)
    have p8 := c_isPose (g := g) (L := L) k hW (p := (S 8).getD j 0) (by omega)
    by_cases h6 : isP w h S ((S 6).getD j 0)
    · by_cases h8 : isP w h S ((S 8).getD j 0)
      · obtain ⟨I1, d1, d2, d3⟩ := sp_step (g := g) (L := L) c htx b6 b7
        have hst := stepF_lt (K := S 0) (t := t) (tap := (S 7).getD j 0) k.2.1 b6
        by_cases he : stepF w h (S 0) t ((S 6).getD j 0) ((S 7).getD j 0) % 200 = (S 8).getD j 0
        · obtain ⟨I2, e1, e2, e3⟩ := ih (j + 1) I1 d2 htx (by omega)
          rw [show hB w h S t (d + 1) j = hB w h S t d (j + 1) from by
            show (okAt w h S t j && hB w h S t d (j + 1)) = _
            unfold okAt; rw [pB_t h6, pB_t h8, decide_eq_true he]; rfl]
          refine ⟨I2, mk _ _ ⟨_, sp_size (k.il 6 (by decide)), fun e => absurd e (nI_ge hjl (by omega)), fun _ => ⟨_, a6, _, a8, _, p6, fun e => absurd e (b2i_1 (pB_t h6)), fun _ => ⟨_, p8, fun _ => ⟨_, a7, _, I1, L, d1, _, sp_poseOf (by omega), fun _ y hy => by rw [hy, nI_1]; exact e1, fun e => absurd (by rw [he]) e⟩, fun e => absurd e (b2i_1 (pB_t h8))⟩⟩⟩, e2, fun a ha => by rw [e3 a ha]; unfold nowA at ha; exact d3 a (by omega) (by omega) (by omega) (by omega)⟩
        · rw [show hB w h S t (d + 1) j = false from by
            show (okAt w h S t j && hB w h S t d (j + 1)) = _
            unfold okAt; rw [pB_t h6, pB_t h8, decide_eq_false he]; rfl]
          refine ⟨I1, mk _ _ ⟨_, sp_size (k.il 6 (by decide)), fun e => absurd e (nI_ge hjl (by omega)), fun _ => ⟨_, a6, _, a8, _, p6, fun e => absurd e (b2i_1 (pB_t h6)), fun _ => ⟨_, p8, fun _ => ⟨_, a7, _, I1, L, d1, _, sp_poseOf (by omega), fun e => absurd ((nI_eq (by omega) (by omega)).mp e) he, fun _ => ⟨rfl, rfl⟩⟩, fun e => absurd e (b2i_1 (pB_t h8))⟩⟩⟩, d2, fun a ha => by unfold nowA at ha; exact d3 a (by omega) (by omega) (by omega) (by omega)⟩
      · rw [show hB w h S t (d + 1) j = false from by
            show (okAt w h S t j && hB w h S t d (j + 1)) = _
            unfold okAt; rw [pB_t h6, pB_f h8]; rfl]
        exact ⟨I, mk _ _ ⟨_, sp_size (k.il 6 (by decide)), fun e => absurd e (nI_ge hjl (by omega)), fun _ => ⟨_, a6, _, a8, _, p6, fun e => absurd e (b2i_1 (pB_t h6)), fun _ => ⟨_, p8, fun e => absurd (by rw [pB_f h8]; rfl) e, fun _ => ⟨rfl, rfl⟩⟩⟩⟩, c, fun _ _ => rfl⟩
    · rw [show hB w h S t (d + 1) j = false from by
            show (okAt w h S t j && hB w h S t d (j + 1)) = _
            unfold okAt; rw [pB_f h6]; rfl]
      exact ⟨I, mk _ _ ⟨_, sp_size (k.il 6 (by decide)), fun e => absurd e (nI_ge hjl (by omega)), fun _ => ⟨_, a6, _, a8, _, p6, fun _ => ⟨rfl, rfl⟩, fun e => absurd (by rw [pB_f h6]; rfl) e⟩⟩, c, fun _ _ => rfl⟩
theorem ho_run : ∀ (ts : List TX) (j : Nat) (acc : Int32) (I : Nat → Nat → Int32), CL Z I w h S tx → tx.drop j = ts → j ≤ tx.length →
    ∃ I1, Lp_X11_holds_4 g 7 0 acc (nI j) (Z, I, L) (some (.int (holdsF w h S ts j acc))) (Z, I1, L) ∧ CL Z I1 w h S tx ∧ ∀ a, ¬ nowA a → I1 a = I a := by
  intro ts
  induction ts with
  | nil =>
    intro j acc I c hd hj
    obtain ⟨k, hW, -⟩ := id c
    have hx4 := k.2.2.2.2.2.2.2.1
    have hlen := k.2.2.2.2.2.2.1
    have hj : tx.length ≤ j := List.drop_eq_nil_iff.mp hd
    refine ⟨I, wp_X11_holds_4 (k.1.k 0 11 (by decide) (by decide)) (k.1.r 0 0 18 (by decide)) (k.1.k 18 8 (by decide) (by decide)) ⟨fun _ => ⟨rfl, rfl⟩, fun e => ?_⟩, c, fun _ _ => rfl⟩
    rw [hlen] at e
    exact absurd (nI_le hj (by omega)) e
  | cons t ts ih =>
    intro j acc I c hd hj
    obtain ⟨k, hW, -⟩ := id c
    have hx4 := k.2.2.2.2.2.2.2.1
    have hlen := k.2.2.2.2.2.2.1
    have hjl : j < tx.length := by
      rcases Nat.lt_or_ge j tx.length with h1 | h1
      · exact h1
      · rw [List.drop_eq_nil_of_le h1] at hd; cases hd
    rw [List.drop_eq_getElem_cons hjl] at hd
    obtain ⟨h1, h2⟩ := List.cons.inj hd
    have htx : tx[j]? = some t := by rw [List.getElem?_eq_getElem hjl, h1]
    obtain ⟨I1, d1, d2, d3⟩ := as_run (g := g) (L := L) (S := S) (hb := j) (t := t) (S 6).length 0 I c htx (Nat.zero_add _)
    have cc := @cp_X11_isAllSeenBy g Z I L _ _ 0 (nI j) (k.1.k 0 11 (by decide) (by decide)) d1
    obtain ⟨I2, e1, e2, e3⟩ := ih (j + 1) (if hB w h S t (S 6).length 0 then acc ||| (1 <<< (nI j &&& 31)) else acc) I1 d2 h2 (by omega)
    refine ⟨I2, wp_X11_holds_4 (k.1.k 0 11 (by decide) (by decide)) (k.1.r 0 0 18 (by decide)) (k.1.k 18 8 (by decide) (by decide)) ⟨fun e => ?_, fun _ => ⟨_, I1, L, cc, fun e y hy y2 hy2 => ?_, fun e y hy y2 hy2 => ?_⟩⟩, e2, fun a ha => by rw [e3 a ha, d3 a ha]⟩
    · rw [hlen] at e
      exact absurd e (nI_ge hjl (by omega))
    · rw [b2i_0] at e
      rw [e] at e1
      rw [hy, hy2, nI_1, Int32.or_zero, show holdsF w h S (t :: ts) j acc = holdsF w h S ts (j + 1) acc from by
        show holdsF w h S ts (j + 1) (if hB w h S t (S 6).length 0 then acc ||| (1 <<< (nI j &&& 31)) else acc) = _
        rw [e]; rfl]
      exact e1
    · rw [b2i_0, Bool.not_eq_false] at e
      rw [e] at e1
      rw [hy, hy2, nI_1, show holdsF w h S (t :: ts) j acc = holdsF w h S ts (j + 1) (acc ||| (1 <<< (nI j &&& 31))) from by
        show holdsF w h S ts (j + 1) (if hB w h S t (S 6).length 0 then acc ||| (1 <<< (nI j &&& 31)) else acc) = _
        rw [e]; rfl]
      exact e1
theorem op_holds (c : CL Z I w h S tx) : ∃ I1, Cl g 7 mu_X11_holds [rf g 0] (Z, I, L) (some (.int (holdsF w h S tx 0 0))) (Z, I1, L) ∧ CL Z I1 w h S tx ∧ ∀ a, ¬ nowA a → I1 a = I a := by
  obtain ⟨I1, d1, d2, d3⟩ := ho_run (g := g) (L := L) tx 0 0 I c rfl (Nat.zero_le _)
  exact ⟨I1, cp_X11_holds (c.1.1.k 0 11 (by decide) (by decide)) d1, d2, d3⟩
end HOLDS
