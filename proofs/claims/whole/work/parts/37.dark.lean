/-! dark(), on both sides -/
/-- the bumps of a row of taps, in bits -/
def bitsF (w h : Nat) (K : List Nat) (t : TX) : List Nat → Nat → Nat → Int32 → Int32
  | [], _, _, acc => acc
  | tap :: ts, j, p, acc => bitsF w h K t ts (j + 1) (stepF w h K t p tap % 200) (if 200 ≤ stepF w h K t p tap ∧ stepF w h K t p tap < 400 then acc ||| (1 <<< (nI j &&& 31)) else acc)
def darkF (w h : Nat) (S : Nat → List Nat) (t : TX) (x2 x3 : Int32) : Nat → Nat → Nat → Int32
  | 0, _, cnt => if x3 = -1 then nI cnt else -1
  | d + 1, p, cnt => if pB w h S p && decide (bitsF w h (S 0) t (S 3) 0 p 0 = x2) then (if nI cnt = x3 then nI p else darkF w h S t x2 x3 d (p + 1) (cnt + 1)) else darkF w h S t x2 x3 d (p + 1) cnt
def vDark (S : Nat → List Nat) (tx : List TX) (x1 x2 x3 : Int32) : Prop := (∃ hb, x1 = nI hb ∧ hb < tx.length) ∧ ¬ x2 < 0 ∧ x2 < nI (2 ^ (S 3).length) ∧ -1 ≤ x3
theorem shl1 {n : Nat} (hn : n ≤ 16) : (1 : Int32) <<< (nI n &&& 31) = nI (2 ^ n) := by
  have cs : n = 0 ∨ n = 1 ∨ n = 2 ∨ n = 3 ∨ n = 4 ∨ n = 5 ∨ n = 6 ∨ n = 7 ∨ n = 8 ∨ n = 9 ∨ n = 10 ∨ n = 11 ∨ n = 12 ∨ n = 13 ∨ n = 14 ∨ n = 15 ∨ n = 16 := by omega
  rcases cs with rfl | rfl | rfl | rfl | rfl | rfl | rfl | rfl | rfl | rfl | rfl | rfl | rfl | rfl | rfl | rfl | rfl <;> decide
theorem pow16 {n : Nat} (hn : n ≤ 16) : 2 ^ n ≤ 65536 := Nat.pow_le_pow_right (by decide) hn
section DARK
variable {g : GE} {Z : Zs} {I : Nat → Nat → Int32} {L : Nat → Nat → Int64} {w h : Nat} {S : Nat → List Nat} {tx : List TX}
theorem bf_run {hb : Nat} {t : TX} (htx : tx[hb]? = some t) : ∀ (ts : List Nat) (j p : Nat) (acc : Int32) (I : Nat → Nat → Int32), CL Z I w h S tx → (S 3).drop j = ts → isP w h S p → j ≤ (S 3).length →
    ∃ I1, Lp_X11_bumpsFrom_8 g 6 0 (nI hb) (nI p) acc (nI j) (Z, I, L) (some (.int (bitsF w h (S 0) t ts j p acc))) (Z, I1, L) ∧ CL Z I1 w h S tx ∧ ∀ a, ¬ nowA a → I1 a = I a := by
  intro ts
  induction ts with
  | nil =>
    intro j p acc I c hd hp hj3
    obtain ⟨k, hW, -⟩ := id c
    have hl3 : (S 3).length ≤ 16 := (k.il 3 (by decide)).2.2.2.2.2.1
    have hj : (S 3).length ≤ j := List.drop_eq_nil_iff.mp hd
    exact ⟨I, wp_X11_bumpsFrom_8 (k.1.k 0 11 (by decide) (by decide)) (k.1.r 0 0 18 (by decide)) (k.1.k 18 8 (by decide) (by decide)) (k.1.r 18 5 23 (by decide)) (k.1.k 23 2 (by decide) (by decide)) (k.1.r 0 5 66 (by decide)) (k.1.k 66 3 (by decide) (by decide)) ⟨_, sp_size (k.il 3 (by decide)), fun _ => ⟨rfl, rfl⟩, fun e => absurd (nI_le hj (by omega)) e⟩, c, fun _ _ => rfl⟩
  | cons tap ts ih =>
    intro j p acc I c hd hp hj3
    obtain ⟨k, hW, -⟩ := id c
    have hl3 : (S 3).length ≤ 16 := (k.il 3 (by decide)).2.2.2.2.2.1
    have hjl : j < (S 3).length := by
      rcases Nat.lt_or_ge j (S 3).length with h1 | h1
      · exact h1
      · rw [List.drop_eq_nil_of_le h1] at hd; cases hd
    rw [List.drop_eq_getElem_cons hjl] at hd
    obtain ⟨h1, h2⟩ := List.cons.inj hd
    have eg : (S 3).getD j 0 = tap := by simp [List.getD, List.getElem?_eq_getElem hjl, h1]
    have ht : tap < 4 := hW.2.2.2.2.2.1 j tap (by rw [List.getElem?_eq_getElem hjl, h1])
    have hst := stepF_lt (K := S 0) (t := t) (tap := tap) k.2.1 hp.1
    have cb := sp_at (g := g) (L := L) (k.il 3 (by decide)) (nI j)
    rw [atL_n _ (by omega), eg] at cb
    obtain ⟨I2, d1, d2, d3⟩ := sp_step (g := g) (L := L) c htx hp.1 ht
    obtain ⟨I1, e1, e2, e3⟩ := ih (j + 1) (stepF w h (S 0) t p tap % 200) (if 200 ≤ stepF w h (S 0) t p tap ∧ stepF w h (S 0) t p tap < 400 then acc ||| (1 <<< (nI j &&& 31)) else acc) I2 d2 h2 (step_isP k.2.1 hW hp) (by omega)
    refine ⟨I1, wp_X11_bumpsFrom_8 (k.1.k 0 11 (by decide) (by decide)) (k.1.r 0 0 18 (by decide)) (k.1.k 18 8 (by decide) (by decide)) (k.1.r 18 5 23 (by decide)) (k.1.k 23 2 (by decide) (by decide)) (k.1.r 0 5 66 (by decide)) (k.1.k 66 3 (by decide) (by decide)) ⟨_, sp_size (k.il 3 (by decide)), fun e => absurd e (nI_ge hjl (by omega)), fun _ => ⟨_, cb, _, I2, L, d1, _, sp_hasBumped (by omega), fun e y hy => ⟨_, sp_poseOf (by omega), fun y2 hy2 => ?_⟩, fun e y hy => ⟨_, sp_poseOf (by omega), fun y2 hy2 => ?_⟩⟩⟩, e2, fun a ha => by rw [e3 a ha, d3 a (by unfold nowA at ha; omega) (by unfold nowA at ha; omega) (by unfold nowA at ha; omega) (by unfold nowA at ha; omega)]⟩
    · rw [b2i_0, decide_eq_false_iff_not] at e
      rw [if_neg e] at e1
      rw [hy, hy2, nI_1, Int32.or_zero]
      unfold bitsF
      rw [if_neg e]
      exact e1
    · rw [b2i_0, decide_eq_false_iff_not] at e
      have e := Classical.not_not.mp e
      rw [if_pos e] at e1
      rw [hy, hy2, nI_1]
      unfold bitsF
      rw [if_pos e]
      exact e1
theorem dk_run {hb : Nat} {t : TX} (htx : tx[hb]? = some t) {x2 x3 : Int32} : ∀ (d p cnt : Nat) (I : Nat → Nat → Int32), CL Z I w h S tx → p + d = 4 * (w * h) →
    ∃ I1, Lp_X11_dark_44 g 7 0 (nI hb) x2 x3 (nI cnt) (nI p) (Z, I, L) (some (.int (darkF w h S t x2 x3 d p cnt))) (Z, I1, L) ∧ CL Z I1 w h S tx ∧ ∀ a, ¬ nowA a → I1 a = I a := by
  intro d
  induction d with
  | zero =>
    intro p cnt I c hp
    obtain ⟨k, hW, -⟩ := id c
    have hm := k.2.1.mul
    refine ⟨I, wp_X11_dark_44 (k.1.k 0 11 (by decide) (by decide)) (k.1.r 0 0 18 (by decide)) (k.1.k 18 8 (by decide) (by decide)) ⟨_, sp_posesInAll k, fun _ => ⟨fun e => ⟨?_, rfl⟩, fun e => ⟨?_, rfl⟩⟩, fun e => absurd (nI_le (show 4 * (w * h) ≤ p by omega) (by omega)) e⟩, c, fun _ _ => rfl⟩
    · unfold darkF; rw [if_neg e]
    · unfold darkF; rw [if_pos e]
  | succ d ih =>
    intro p cnt I c hp
    obtain ⟨k, hW, -⟩ := id c
    have hm := k.2.1.mul
    have mk := fun (r : Option Value) (M' : Mem) => @wp_X11_dark_44 g Z I L r M' 0 (nI hb) x2 x3 (nI cnt) (nI p) 18 (k.1.k 0 11 (by decide) (by decide)) (k.1.r 0 0 18 (by decide)) (k.1.k 18 8 (by decide) (by decide))
    have pp := c_isPose (g := g) (L := L) k hW (p := p) (by omega)
    have ge : nI (4 * (w * h)) ≤ nI p → False := fun e => absurd e (nI_ge (show p < 4 * (w * h) by omega) (by omega))
    by_cases hP : isP w h S p
    · obtain ⟨I1, b1, b2, b3⟩ := bf_run (g := g) (L := L) htx (S 3) 0 p 0 I c rfl hP (Nat.zero_le _)
      have cb := @cp_X11_bumpsFrom g Z I L _ _ 0 (nI hb) (nI p) (k.1.k 0 11 (by decide) (by decide)) b1
      by_cases hE : bitsF w h (S 0) t (S 3) 0 p 0 = x2
      · by_cases hC : nI cnt = x3
        · rw [show darkF w h S t x2 x3 (d + 1) p cnt = nI p from by
            unfold darkF; rw [pB_t hP, decide_eq_true hE, if_pos (show (true && true) = true from rfl), if_pos hC]]
          exact ⟨I1, mk _ _ ⟨_, sp_posesInAll k, fun e => (ge e).elim, fun _ => ⟨_, pp, fun e => absurd e (b2i_1 (pB_t hP)), fun _ => ⟨_, I1, L, cb, fun e => absurd hE e, fun _ => ⟨fun e => absurd hC e, fun _ => ⟨rfl, rfl⟩⟩⟩⟩⟩, b2, b3⟩
        · obtain ⟨I2, e1, e2, e3⟩ := ih (p + 1) (cnt + 1) I1 b2 (by omega)
          rw [show darkF w h S t x2 x3 (d + 1) p cnt = darkF w h S t x2 x3 d (p + 1) (cnt + 1) from by
            show (if pB w h S p && decide (bitsF w h (S 0) t (S 3) 0 p 0 = x2) then (if nI cnt = x3 then nI p else darkF w h S t x2 x3 d (p + 1) (cnt + 1)) else darkF w h S t x2 x3 d (p + 1) cnt) = _
            rw [pB_t hP, decide_eq_true hE, if_neg hC]; rfl]
          exact ⟨I2, mk _ _ ⟨_, sp_posesInAll k, fun e => (ge e).elim, fun _ => ⟨_, pp, fun e => absurd e (b2i_1 (pB_t hP)), fun _ => ⟨_, I1, L, cb, fun e => absurd hE e, fun _ => ⟨fun _ y hy y2 hy2 => by rw [hy, hy2, nI_1, nI_1]; exact e1, fun e => absurd e hC⟩⟩⟩⟩, e2, fun a ha => by rw [e3 a ha, b3 a ha]⟩
      · obtain ⟨I2, e1, e2, e3⟩ := ih (p + 1) cnt I1 b2 (by omega)
        rw [show darkF w h S t x2 x3 (d + 1) p cnt = darkF w h S t x2 x3 d (p + 1) cnt from by
            show (if pB w h S p && decide (bitsF w h (S 0) t (S 3) 0 p 0 = x2) then (if nI cnt = x3 then nI p else darkF w h S t x2 x3 d (p + 1) (cnt + 1)) else darkF w h S t x2 x3 d (p + 1) cnt) = _
            rw [pB_t hP, decide_eq_false hE]; rfl]
        exact ⟨I2, mk _ _ ⟨_, sp_posesInAll k, fun e => (ge e).elim, fun _ => ⟨_, pp, fun e => absurd e (b2i_1 (pB_t hP)), fun _ => ⟨_, I1, L, cb, fun _ y hy => by rw [hy, nI_1]; exact e1, fun e => absurd e hE⟩⟩⟩, e2, fun a ha => by rw [e3 a ha, b3 a ha]⟩
    · obtain ⟨I2, e1, e2, e3⟩ := ih (p + 1) cnt I c (by omega)
      rw [show darkF w h S t x2 x3 (d + 1) p cnt = darkF w h S t x2 x3 d (p + 1) cnt from by
            show (if pB w h S p && decide (bitsF w h (S 0) t (S 3) 0 p 0 = x2) then (if nI cnt = x3 then nI p else darkF w h S t x2 x3 d (p + 1) (cnt + 1)) else darkF w h S t x2 x3 d (p + 1) cnt) = _
            rw [pB_f hP]; rfl]
      exact ⟨I2, mk _ _ ⟨_, sp_posesInAll k, fun e => (ge e).elim, fun _ => ⟨_, pp, fun _ y hy => by rw [hy, nI_1]; exact e1, fun e => absurd (by rw [pB_f hP]; rfl) e⟩⟩, e2, e3⟩
theorem op_dark (c : CL Z I w h S tx) {hb : Nat} {t : TX} {x2 x3 : Int32} (htx : tx[hb]? = some t) (h2 : ¬ x2 < 0) (h2' : x2 < nI (2 ^ (S 3).length)) (h3 : -1 ≤ x3) : ∃ I1, Cl g 7 mu_X11_dark [rf g 0, .int (nI hb), .int x2, .int x3] (Z, I, L) (some (.int (darkF w h S t x2 x3 (4 * (w * h)) 0 0))) (Z, I1, L) ∧ CL Z I1 w h S tx ∧ ∀ a, ¬ nowA a → I1 a = I a := by
  obtain ⟨k, hW, -⟩ := id c
  have hx4 := k.2.2.2.2.2.2.2.1
  have hbl := (List.getElem?_eq_some_iff.mp htx).1
  have hl3 : (S 3).length ≤ 16 := (k.il 3 (by decide)).2.2.2.2.2.1
  obtain ⟨I1, d1, d2, d3⟩ := dk_run (g := g) (L := L) htx (x2 := x2) (x3 := x3) (4 * (w * h)) 0 0 I c (Nat.zero_add _)
  refine ⟨I1, cp_X11_dark (k.1.k 0 11 (by decide) (by decide)) (k.1.r 0 0 18 (by decide)) (k.1.k 18 8 (by decide) (by decide)) (k.1.r 18 5 23 (by decide)) (k.1.k 23 2 (by decide) (by decide)) ⟨_, sp_isText k _, fun e => absurd e (ite_1 (nI_in0 hbl (by omega))), fun _ => ⟨fun e => absurd e h2, fun _ => ⟨_, sp_size (k.il 3 (by decide)), ?_⟩⟩⟩, d2, d3⟩
  rw [shl1 hl3]
  exact ⟨fun e => absurd e (Int32.not_le.mpr h2'), fun _ => ⟨fun _ => d1, fun e => absurd h3 e⟩⟩
theorem op_darkN (c : CL Z I w h S tx) {x1 x2 x3 : Int32} (hn : ¬ vDark S tx x1 x2 x3) : Cl g 7 mu_X11_dark [rf g 0, .int x1, .int x2, .int x3] (Z, I, L) (some (.int (-1))) (Z, I, L) := by
  obtain ⟨k, hW, -⟩ := id c
  have hx4 := k.2.2.2.2.2.2.2.1
  have hl3 : (S 3).length ≤ 16 := (k.il 3 (by decide)).2.2.2.2.2.1
  refine cp_X11_dark (k.1.k 0 11 (by decide) (by decide)) (k.1.r 0 0 18 (by decide)) (k.1.k 18 8 (by decide) (by decide)) (k.1.r 18 5 23 (by decide)) (k.1.k 23 2 (by decide) (by decide)) ⟨_, sp_isText k _, fun _ => ⟨rfl, rfl⟩, fun e => ⟨fun _ => ⟨rfl, rfl⟩, fun h2 => ⟨_, sp_size (k.il 3 (by decide)), ?_⟩⟩⟩
  rw [shl1 hl3]
  refine ⟨fun _ => ⟨rfl, rfl⟩, fun h3 => ⟨fun h4 => ?_, fun _ => ⟨rfl, rfl⟩⟩⟩
  by_cases h1 : ¬ x1 < 0 ∧ x1 < nI tx.length
  · exact absurd ⟨in0_nI (by omega) h1, h2, Int32.not_le.mp h3, h4⟩ hn
  · exact absurd (ite_0 h1) e
/-- the model's -/
theorem mbf_run (k : MM Z I w h S tx) (hW : WF w h S tx) {hb : Nat} {t : TX} (htx : tx[hb]? = some t) (hV : LV I w h S t hb (16 * (w * h))) : ∀ (ts : List Nat) (j p : Nat) (acc : Int32), (S 3).drop j = ts → isP w h S p → j ≤ (S 3).length →
    Lp_X12_bumpsFrom_8 g 2 76 (nI hb) acc (nI p) (nI j) (Z, I, L) (some (.int (bitsF w h (S 0) t ts j p acc))) (Z, I, L) := by
  obtain ⟨hM, c0, c1, c2, c3, c4, c5, c6⟩ := k.2.2.2.2.1
  have hl3 : (S 3).length ≤ 16 := k.len 3 (by decide)
  intro ts
  induction ts with
  | nil =>
    intro j p acc hd hp hj3
    have hj : (S 3).length ≤ j := List.drop_eq_nil_iff.mp hd
    refine wp_X12_bumpsFrom_8 (k.1.k 76 12 (by decide) (by decide)) (k.1.r 76 0 77 (by decide)) (k.1.k 77 13 (by decide) (by decide)) ⟨vin k (j := 2) (by decide), fun _ => ⟨rfl, rfl⟩, fun e => ?_⟩
    rw [show I 77 (2 : Int32).toNatClampNeg = nI (S 3).length from c2] at e
    exact absurd (nI_le hj (by omega)) e
  | cons tap ts ih =>
    intro j p acc hd hp hj3
    have hjl : j < (S 3).length := by
      rcases Nat.lt_or_ge j (S 3).length with h1 | h1
      · exact h1
      · rw [List.drop_eq_nil_of_le h1] at hd; cases hd
    rw [List.drop_eq_getElem_cons hjl] at hd
    obtain ⟨h1, h2⟩ := List.cons.inj hd
    have eg : (S 3).getD j 0 = tap := by simp [List.getD, List.getElem?_eq_getElem hjl, h1]
    have ht : tap < 4 := hW.2.2.2.2.2.1 j tap (by rw [List.getElem?_eq_getElem hjl, h1])
    have hst := stepF_lt (K := S 0) (t := t) (tap := tap) k.2.1 hp.1
    have eI : I 77 (50 + j) = nI tap := by
      have := k.atD 3 (by decide) hjl
      rw [eg, show mB 3 + mDl 3 * j = 50 + j by show 50 + 1 * j = _; omega] at this
      exact this
    have e1 := ih (j + 1) (stepF w h (S 0) t p tap % 200) (if 200 ≤ stepF w h (S 0) t p tap ∧ stepF w h (S 0) t p tap < 400 then acc ||| (1 <<< (nI j &&& 31)) else acc) h2 (step_isP k.2.1 hW hp) (by omega)
    refine wp_X12_bumpsFrom_8 (k.1.k 76 12 (by decide) (by decide)) (k.1.r 76 0 77 (by decide)) (k.1.k 77 13 (by decide) (by decide)) ⟨vin k (j := 2) (by decide), fun e => ?_, fun _ => ?_⟩
    · rw [show I 77 (2 : Int32).toNatClampNeg = nI (S 3).length from c2] at e
      exact absurd e (nI_ge hjl (by omega))
    · rw [show (50 : Int32) + nI j = nI (50 + j) from nI_add 50 j, nI_clamp (by omega), eI]
      refine ⟨vin k (by omega), _, ms_laid k htx hV hp ht, _, ci_bump (by omega), fun e y hy y2 hy2 y3 hy3 => ?_, fun e y hy y2 hy2 y3 hy3 => ?_⟩
      · have e : ¬ (200 ≤ stepF w h (S 0) t p tap ∧ stepF w h (S 0) t p tap < 400) := fun z => by
          unfold bmp at e; rw [if_pos z] at e; exact absurd e (by decide)
        rw [if_neg e] at e1
        rw [hy, hy2, hy3, nI_1, Int32.or_zero, rem200 (by omega)]
        unfold bitsF
        rw [if_neg e]
        exact e1
      · have e : 200 ≤ stepF w h (S 0) t p tap ∧ stepF w h (S 0) t p tap < 400 := Classical.not_not.mp (fun z => by
          unfold bmp at e; rw [if_neg z] at e; exact absurd rfl e)
        rw [if_pos e] at e1
        rw [hy, hy2, hy3, nI_1, rem200 (by omega)]
        unfold bitsF
        rw [if_pos e]
        exact e1
theorem mdk_run (k : MM Z I w h S tx) (hW : WF w h S tx) {hb : Nat} {t : TX} (htx : tx[hb]? = some t) (hV : LV I w h S t hb (16 * (w * h))) {x2 x3 : Int32} : ∀ (d p cnt : Nat), p + d = 4 * (w * h) →
    Lp_X12_dark_44 g 7 76 (nI hb) x2 x3 (nI cnt) (nI p) (Z, I, L) (some (.int (darkF w h S t x2 x3 d p cnt))) (Z, I, L) := by
  have hm := k.2.1.mul
  intro d
  induction d with
  | zero =>
    intro p cnt hp
    refine wp_X12_dark_44 (k.1.k 76 12 (by decide) (by decide)) ⟨fun _ => ⟨fun e => ⟨?_, rfl⟩, fun e => ⟨?_, rfl⟩⟩, fun e => ?_⟩
    · unfold darkF; rw [if_neg e]
    · unfold darkF; rw [if_pos e]
    · rw [e4wh k] at e
      exact absurd (nI_le (show 4 * (w * h) ≤ p by omega) (by omega)) e
  | succ d ih =>
    intro p cnt hp
    have mk := fun (r : Option Value) (M' : Mem) => @wp_X12_dark_44 g Z I L r M' 76 (nI hb) x2 x3 (nI cnt) (nI p) (k.1.k 76 12 (by decide) (by decide))
    have pp := m_isPose (g := g) (L := L) k hW (p := p) (by omega)
    have ge : (4 * I 76 2) * I 76 3 ≤ nI p → False := fun e => by
      rw [e4wh k] at e
      exact absurd e (nI_ge (show p < 4 * (w * h) by omega) (by omega))
    by_cases hP : isP w h S p
    · have b1 := mbf_run (g := g) (L := L) k hW htx hV (S 3) 0 p 0 rfl hP (Nat.zero_le _)
      have cb := @cp_X12_bumpsFrom g Z I L _ _ 76 (nI hb) (nI p) (k.1.k 76 12 (by decide) (by decide)) b1
      by_cases hE : bitsF w h (S 0) t (S 3) 0 p 0 = x2
      · by_cases hC : nI cnt = x3
        · rw [show darkF w h S t x2 x3 (d + 1) p cnt = nI p from by
            unfold darkF; rw [pB_t hP, decide_eq_true hE, if_pos (show (true && true) = true from rfl), if_pos hC]]
          exact mk _ _ ⟨fun e => (ge e).elim, fun _ => ⟨_, pp, fun e => absurd e (b2i_1 (pB_t hP)), fun _ => ⟨_, cb, fun _ => ⟨fun e => absurd hC e, fun _ => ⟨rfl, rfl⟩⟩, fun e => absurd hE e⟩⟩⟩
        · rw [show darkF w h S t x2 x3 (d + 1) p cnt = darkF w h S t x2 x3 d (p + 1) (cnt + 1) from by
            show (if pB w h S p && decide (bitsF w h (S 0) t (S 3) 0 p 0 = x2) then (if nI cnt = x3 then nI p else darkF w h S t x2 x3 d (p + 1) (cnt + 1)) else darkF w h S t x2 x3 d (p + 1) cnt) = _
            rw [pB_t hP, decide_eq_true hE, if_neg hC]; rfl]
          exact mk _ _ ⟨fun e => (ge e).elim, fun _ => ⟨_, pp, fun e => absurd e (b2i_1 (pB_t hP)), fun _ => ⟨_, cb, fun _ => ⟨fun _ y hy y2 hy2 => by rw [hy, hy2, nI_1, nI_1]; exact ih (p + 1) (cnt + 1) (by omega), fun e => absurd e hC⟩, fun e => absurd hE e⟩⟩⟩
      · rw [show darkF w h S t x2 x3 (d + 1) p cnt = darkF w h S t x2 x3 d (p + 1) cnt from by
            show (if pB w h S p && decide (bitsF w h (S 0) t (S 3) 0 p 0 = x2) then (if nI cnt = x3 then nI p else darkF w h S t x2 x3 d (p + 1) (cnt + 1)) else darkF w h S t x2 x3 d (p + 1) cnt) = _
            rw [pB_t hP, decide_eq_false hE]; rfl]
        exact mk _ _ ⟨fun e => (ge e).elim, fun _ => ⟨_, pp, fun e => absurd e (b2i_1 (pB_t hP)), fun _ => ⟨_, cb, fun e => absurd e hE, fun _ y hy => by rw [hy, nI_1]; exact ih (p + 1) cnt (by omega)⟩⟩⟩
    · rw [show darkF w h S t x2 x3 (d + 1) p cnt = darkF w h S t x2 x3 d (p + 1) cnt from by
            show (if pB w h S p && decide (bitsF w h (S 0) t (S 3) 0 p 0 = x2) then (if nI cnt = x3 then nI p else darkF w h S t x2 x3 d (p + 1) (cnt + 1)) else darkF w h S t x2 x3 d (p + 1) cnt) = _
            rw [pB_f hP]; rfl]
      exact mk _ _ ⟨fun e => (ge e).elim, fun _ => ⟨_, pp, fun _ y hy => by rw [hy, nI_1]; exact ih (p + 1) cnt (by omega), fun e => absurd (by rw [pB_f hP]; rfl) e⟩⟩
theorem mo_dark (m : MB Z I w h S tx) {hb : Nat} {t : TX} {x2 x3 : Int32} (htx : tx[hb]? = some t) (h2 : ¬ x2 < 0) (h2' : x2 < nI (2 ^ (S 3).length)) (h3 : -1 ≤ x3) : ∃ I1 L1, Cl g 7 mu_X12_dark [rf g 76, .int (nI hb), .int x2, .int x3] (Z, I, L) (some (.int (darkF w h S t x2 x3 (4 * (w * h)) 0 0))) (Z, I1, L1) ∧ MB Z I1 w h S tx ∧ (∀ a, ¬ modA a → I1 a = I a) ∧ ∀ a, a ≠ 83 → L1 a = L a := by
  obtain ⟨k, hW, hr⟩ := id m
  obtain ⟨hM, c0, c1, c2, c3, c4, c5, c6⟩ := k.2.2.2.2.1
  have hx4 := k.2.2.2.2.2.1
  have hbl := (List.getElem?_eq_some_iff.mp htx).1
  have hl3 : (S 3).length ≤ 16 := k.len 3 (by decide)
  have hp16 := pow16 hl3
  obtain ⟨I1, L1, d1, d2, d3, d4, d5, d6⟩ := ms_lay (g := g) (L := L) m htx
  have e1 := mdk_run (g := g) (L := L1) d2.1 hW htx d3 (x2 := x2) (x3 := x3) (4 * (w * h)) 0 0 (Nat.zero_add _)
  refine ⟨I1, L1, cp_X12_dark (k.1.k 76 12 (by decide) (by decide)) (k.1.r 76 0 77 (by decide)) (k.1.k 77 13 (by decide) (by decide)) ⟨_, ms_isText k _, fun e => absurd e (ite_1 (nI_in0 hbl (by omega))), fun _ => ⟨vin k (j := 2) (by decide), ?_⟩⟩, d2, fun a ha => d5 a (by unfold modA at ha; omega) (by unfold modA at ha; omega) (by unfold modA at ha; omega), d6⟩
  rw [show I 77 (2 : Int32).toNatClampNeg = nI (S 3).length from c2, shl1 hl3]
  exact ⟨_, sp_in0 x2 (by omega), fun e => absurd e (ite_1 ⟨h2, h2'⟩), fun _ => ⟨fun _ => ⟨I1, L1, d1, e1⟩, fun e => absurd h3 e⟩⟩
theorem mo_darkN (m : MB Z I w h S tx) {x1 x2 x3 : Int32} (hn : ¬ vDark S tx x1 x2 x3) : Cl g 7 mu_X12_dark [rf g 76, .int x1, .int x2, .int x3] (Z, I, L) (some (.int (-1))) (Z, I, L) := by
  obtain ⟨k, hW, hr⟩ := id m
  obtain ⟨hM, c0, c1, c2, c3, c4, c5, c6⟩ := k.2.2.2.2.1
  have hx4 := k.2.2.2.2.2.1
  have hl3 : (S 3).length ≤ 16 := k.len 3 (by decide)
  have hp16 := pow16 hl3
  refine cp_X12_dark (k.1.k 76 12 (by decide) (by decide)) (k.1.r 76 0 77 (by decide)) (k.1.k 77 13 (by decide) (by decide)) ⟨_, ms_isText k _, fun _ => ⟨rfl, rfl⟩, fun e => ⟨vin k (j := 2) (by decide), ?_⟩⟩
  rw [show I 77 (2 : Int32).toNatClampNeg = nI (S 3).length from c2, shl1 hl3]
  refine ⟨_, sp_in0 x2 (by omega), fun _ => ⟨rfl, rfl⟩, fun e2 => ⟨fun h4 => ?_, fun _ => ⟨rfl, rfl⟩⟩⟩
  by_cases h1 : ¬ x1 < 0 ∧ x1 < nI tx.length
  · by_cases h2 : ¬ x2 < 0 ∧ x2 < nI (2 ^ (S 3).length)
    · exact absurd ⟨in0_nI (by omega) h1, h2.1, h2.2, h4⟩ hn
    · exact absurd (ite_0 h2) e2
  · exact absurd (ite_0 h1) e
end DARK
