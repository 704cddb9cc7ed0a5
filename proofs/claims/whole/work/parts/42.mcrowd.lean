/-! crowd(), the model's side -/
/-- who is at home is out -/
def hmO (home : Nat) (o : Option Nat) : Option Nat := match o with
  | none => none
  | some p => unH home p
def PW (I : Nat → Nat → Int32) (n : Nat) (q : Nat → Option Nat) : Prop := ∀ j, j < n → I 97 j = oI (q j)
def noH (n home : Nat) (q : Nat → Option Nat) : Prop := ∀ j p, j < n → q j = some p → p / 4 ≠ home
section MCROWD
variable {g : GE} {Z : Zs} {I : Nat → Nat → Int32} {L : Nat → Nat → Int64} {w h : Nat} {S : Nat → List Nat} {tx : List TX} {q : Nat → Option Nat}
theorem v97 (hS : Sh Z) {j : Nat} (hj : j < 6) : vp_in (nI j) (Z.2.2.1 97) := by rw [hS.n 97 6 (by decide)]; exact vp_in_nI hj (by decide)
theorem MB.o97 (m : MB Z I w h S tx) (f : Nat → Int32) : MB Z (rw1 I 97 f) w h S tx := ⟨m.1.kept (fun a ha => rw1_n _ _ (by omega)), m.2.1, fun j hj => by rw [rw1_n _ _ (show (82 : Nat) ≠ 97 by decide)]; exact m.2.2 j hj⟩
theorem PW.put {n : Nat} (hC : PW I n q) (j : Nat) (o : Option Nat) : PW (rw1 I 97 (upd (I 97) j (oI o))) n (rw1 q j o) := fun i hi => by
  rw [rw1_s]
  show (if i = j then oI o else I 97 i) = _
  by_cases hij : i = j
  · rw [if_pos hij, hij, rw1_s]
  · rw [if_neg hij, rw1_n _ _ hij]; exact hC i hi
theorem oI_neg {o : Option Nat} (ho : ∀ p, o = some p → p < 2 ^ 31) : oI o < 0 ↔ o = none := by
  cases o with
  | none => exact ⟨fun _ => rfl, fun _ => (by decide : (-1 : Int32) < 0)⟩
  | some p => exact ⟨fun e => absurd e (nI_pos (ho p rfl)), fun e => by cases e⟩
theorem oI_ge {o : Option Nat} (ho : ∀ p, o = some p → p < 2 ^ 31) : 0 ≤ oI o ↔ ¬ o = none := by
  rw [← oI_neg ho]; exact Int32.not_lt.symm
theorem hmO_none {home : Nat} {o : Option Nat} (ho : hmO home o = none) (p : Nat) (hp : o = some p) : p / 4 = home := by
  subst hp
  unfold hmO unH at ho
  simp only at ho
  split at ho
  · assumption
  · cases ho
/-- areHome(): from j on -/
theorem ah_run {home : Nat} (hh : home < w * h) : ∀ (d j : Nat) (b : Bool) (q : Nat → Option Nat) (I : Nat → Nat → Int32), MB Z I w h S tx → qok w h S q → PW I (S 1).length q → j + d = (S 1).length →
    ∃ I1 q1, Lp_X12_areHome_4 g 1 76 (nI home) (b2i b) (nI j) (Z, I, L) (some (.int (b2i (b && emB q1 d j)))) (Z, I1, L) ∧ MB Z I1 w h S tx ∧ PW I1 (S 1).length q1 ∧ (∀ i, q1 i = if j ≤ i ∧ i < (S 1).length then hmO home (q i) else q i) ∧ ∀ a, a ≠ 97 → I1 a = I a := by
  intro d
  induction d with
  | zero =>
    intro j b q I m hq hC hj
    obtain ⟨k, hW, hr⟩ := id m
    obtain ⟨hM, c0, c1, c2, c3, c4, c5, c6⟩ := k.2.2.2.2.1
    have hl1 : (S 1).length ≤ 6 := k.len 1 (by decide)
    refine ⟨I, q, wp_X12_areHome_4 (k.1.k 76 12 (by decide) (by decide)) (k.1.r 76 0 77 (by decide)) (k.1.k 77 13 (by decide) (by decide)) (k.1.r 76 41 97 (by decide)) (k.1.k 97 13 (by decide) (by decide)) ⟨vin k (j := 0) (by decide), fun _ => ⟨?_, ?_, rfl⟩, fun e => ?_⟩, m, hC, fun i => by rw [if_neg (by omega)], fun _ _ => rfl⟩
    · cases b
      · exact Or.inl rfl
      · exact Or.inr rfl
    · show some (Value.int (b2i (b && true))) = _
      rw [Bool.and_true]
    · rw [show I 77 (0 : Int32).toNatClampNeg = nI (S 1).length from c0] at e
      exact absurd (nI_le (show (S 1).length ≤ j by omega) (by omega)) e
  | succ d ih =>
    intro j b q I m hq hC hj
    obtain ⟨k, hW, hr⟩ := id m
    obtain ⟨hM, c0, c1, c2, c3, c4, c5, c6⟩ := k.2.2.2.2.1
    have hm := k.2.1.mul
    have hl1 : (S 1).length ≤ 6 := k.len 1 (by decide)
    have hjl : j < (S 1).length := by omega
    have e97 : I 97 j = oI (q j) := hC j hjl
    have mk := fun (R : Option Value) (M' : Mem) => @wp_X12_areHome_4 g Z I L R M' 76 (nI home) (b2i b) (nI j) 77 97 (k.1.k 76 12 (by decide) (by decide)) (k.1.r 76 0 77 (by decide)) (k.1.k 77 13 (by decide) (by decide)) (k.1.r 76 41 97 (by decide)) (k.1.k 97 13 (by decide) (by decide))
    rw [nI_clamp (show j < 2 ^ 31 by omega)] at mk
    have hgo : I 77 (0 : Int32).toNatClampNeg ≤ nI j → False := fun e => by
      rw [show I 77 (0 : Int32).toNatClampNeg = nI (S 1).length from c0] at e
      exact absurd e (nI_ge hjl (by omega))
    have ql := qlt k.2.1 hq hjl
    cases hqj : q j with
    | none =>
      obtain ⟨I1, q1, e1, e2, e3, e4, e5⟩ := ih (j + 1) b q I m hq hC (by omega)
      have z : q1 j = none := by rw [e4 j, if_neg (by omega)]; exact hqj
      have em : emB q1 (d + 1) j = emB q1 d (j + 1) := by
        show ((q1 j).isNone && emB q1 d (j + 1)) = _
        rw [z]; rfl
      rw [← em] at e1
      refine ⟨I1, q1, mk _ _ ⟨vin k (j := 0) (by decide), fun e => (hgo e).elim, fun _ => ⟨v97 k.1 (by omega), fun _ => ⟨fun e y hy => ?_, fun e => ⟨v97 k.1 (by omega), fun e2 => ?_, fun _ y hy => ?_⟩⟩, fun e => ?_⟩⟩, e2, e3, fun i => ?_, e5⟩
      · rw [b2i_0] at e
        subst e
        rw [hy, nI_1]; exact e1
      · rw [e97, oI_ge ql] at e2
        exact absurd hqj e2
      · rw [b2i_0, Bool.not_eq_false] at e
        subst e
        rw [hy, nI_1]; exact e1
      · rw [e97, oI_neg ql] at e
        exact absurd hqj e
      · rw [e4 i]
        by_cases hij : i = j
        · subst hij
          rw [if_neg (by omega), if_pos (by omega), hqj]; rfl
        · by_cases h1 : j + 1 ≤ i ∧ i < (S 1).length
          · rw [if_pos h1, if_pos (by omega)]
          · rw [if_neg h1, if_neg (by omega)]
    | some p =>
      have hp := (hq j p hjl hqj).1
      have ep : I 97 j = nI p := by rw [e97, hqj]; rfl
      have r4 : nI p / 4 = nI (p / 4) := pk_div (d := 4) (by omega) (by decide) (by decide)
      have nn : ¬ I 97 j < 0 := by rw [ep]; exact nI_pos (by omega)
      by_cases h4 : p / 4 = home
      · obtain ⟨J, hJ⟩ : ∃ J, J = rw1 I 97 (upd (I 97) j (oI none)) := ⟨_, rfl⟩
        have hq' : qok w h S (rw1 q j none) := fun i r hi hr => by
          by_cases hij : i = j
          · subst hij; rw [rw1_s] at hr; cases hr
          · rw [rw1_n _ _ hij] at hr; exact hq i r hi hr
        obtain ⟨I1, q1, e1, e2, e3, e4, e5⟩ := ih (j + 1) b (rw1 q j none) J (by rw [hJ]; exact m.o97 _) hq' (by rw [hJ]; exact hC.put j none) (by omega)
        have z : q1 j = none := by rw [e4 j, if_neg (by omega), rw1_s]
        have em : emB q1 (d + 1) j = emB q1 d (j + 1) := by
          show ((q1 j).isNone && emB q1 d (j + 1)) = _
          rw [z]; rfl
        rw [← em] at e1
        refine ⟨I1, q1, mk _ _ ⟨vin k (j := 0) (by decide), fun e => (hgo e).elim, fun _ => ⟨v97 k.1 (by omega), fun e => absurd e nn, fun _ => ⟨v97 k.1 (by omega), fun e => absurd (by rw [ep, r4, h4]) e, fun _ => ⟨v97 k.1 (by omega), fun I13 h13 => ?_⟩⟩⟩⟩, e2, e3, fun i => ?_, fun a ha => by rw [e5 a ha, hJ]; exact rw1_n _ _ ha⟩
        · have h13 : I13 = J := h13.trans hJ.symm
          subst h13
          have zz : I13 97 j = -1 := by rw [hJ, rw1_s]; exact if_pos rfl
          refine ⟨fun e y hy => ?_, fun e => ⟨v97 k.1 (by omega), fun e2 => ?_, fun _ y hy => ?_⟩⟩
          · rw [b2i_0] at e
            subst e
            rw [hy, nI_1]; exact e1
          · rw [zz] at e2
            exact absurd e2 (by decide)
          · rw [b2i_0, Bool.not_eq_false] at e
            subst e
            rw [hy, nI_1]; exact e1
        · rw [e4 i]
          by_cases hij : i = j
          · subst hij
            rw [if_neg (by omega), rw1_s, if_pos (by omega), hqj]
            show none = unH home p
            unfold unH; rw [if_pos h4]
          · rw [rw1_n _ _ hij]
            by_cases h1 : j + 1 ≤ i ∧ i < (S 1).length
            · rw [if_pos h1, if_pos (by omega)]
            · rw [if_neg h1, if_neg (by omega)]
      · obtain ⟨I1, q1, e1, e2, e3, e4, e5⟩ := ih (j + 1) false q I m hq hC (by omega)
        have z : q1 j = some p := by rw [e4 j, if_neg (by omega)]; exact hqj
        have em : (b && emB q1 (d + 1) j) = (false && emB q1 d (j + 1)) := by
          show (b && ((q1 j).isNone && emB q1 d (j + 1))) = _
          rw [z]; simp
        rw [← em] at e1
        refine ⟨I1, q1, mk _ _ ⟨vin k (j := 0) (by decide), fun e => (hgo e).elim, fun _ => ⟨v97 k.1 (by omega), fun e => absurd e nn, fun _ => ⟨v97 k.1 (by omega), fun _ => ⟨fun e y hy => by rw [hy, nI_1]; exact e1, fun e => ⟨v97 k.1 (by omega), fun _ y hy => by rw [hy, nI_1]; exact e1, fun e2 => absurd (Int32.not_lt.mp nn) e2⟩⟩, fun e => ?_⟩⟩⟩, e2, e3, fun i => ?_, e5⟩
        · rw [ep, r4] at e
          exact absurd ((nI_eq (by omega) (by omega)).mp e) h4
        · rw [e4 i]
          by_cases hij : i = j
          · subst hij
            rw [if_neg (by omega), if_pos (by omega), hqj]
            show some p = unH home p
            unfold unH; rw [if_neg h4]
          · by_cases h1 : j + 1 ≤ i ∧ i < (S 1).length
            · rw [if_pos h1, if_pos (by omega)]
            · rw [if_neg h1, if_neg (by omega)]
end MCROWD
