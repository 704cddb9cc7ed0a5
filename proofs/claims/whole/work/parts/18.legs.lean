/-! Legs -/
def oI (o : Option Nat) : Int32 := match o with
  | none => -1
  | some c => nI c
theorem oI_none : oI none = -1 := rfl
theorem nI_ne_m1 {n : Nat} (h : n < 2 ^ 31) : ¬ nI n = -1 := by
  intro e
  have := congrArg Int32.toInt e
  rw [nI_toInt h] at this
  have h1 : ((-1 : Int32)).toInt = -1 := by decide
  omega
section LEGS
variable {g : GE} {Z : Zs} {I : Nat → Nat → Int32} {L : Nat → Nat → Int64} {w h : Nat} {S : Nat → List Nat} {tx : List TX}
theorem sp_cellAhead (k : CS Z I w h S tx) {p : Nat} (hp : p < 4 * (w * h)) : Cl g 1 mu_X3_cellAhead [rf g 66, .int (nI p)] (Z, I, L) (some (.int (oI (ahd w h p)))) (Z, I, L) := by
  have hm := k.2.1.mul
  obtain ⟨w1, w2, w3, w4⟩ := k.2.1
  have e4 : nI p / 4 = nI (p / 4) := pk_div (d := 4) (by omega) (by decide) (by decide)
  have er : nI p - nI p / 4 * 4 = nI (p % 4) := pk_rem (d := 4) (by omega) (by decide) (by decide)
  have ew : nI (p / 4) / nI w = nI (p / 4 / w) := pk_div (by omega) (by omega) (by omega)
  have em : nI (p / 4) - nI (p / 4) / nI w * nI w = nI (p / 4 % w) := pk_rem (by omega) (by omega) (by omega)
  refine cp_X3_cellAhead (k.1.k 66 3 (by decide) (by decide)) (k.1.r 66 0 18 (by decide)) (k.1.k 18 8 (by decide) (by decide)) ?_
  rw [k.2.2.1, k.2.2.2.1]
  have hw0 : ¬ nI w = 0 := nI_ne0 (by omega) (by omega)
  refine ⟨hw0, fun y2 hy2 => ⟨hw0, fun y4 hy4 => ?_⟩⟩
  rw [e4, em] at hy2
  rw [e4, ew] at hy4
  subst hy2
  subst hy4
  rw [er, e4]
  have b1 : p / 4 / w < 25 := by have := Nat.div_le_self (p / 4) w; omega
  have b2 : p / 4 % w < w := Nat.mod_lt _ (by omega)
  have ep : ∀ {n : Nat}, n < 100 → ((nI n ≤ 0) ↔ n ≤ 0) := fun {n} hn => nI_leI (b := 0) (by omega) (by omega)
  have ew1 : nI w - 1 = nI (w - 1) := pk_sub (b := 1) (by omega)
  have eh1 : nI h - 1 = nI (h - 1) := pk_sub (b := 1) (by omega)
  have cs : p % 4 = 0 ∨ p % 4 = 1 ∨ p % 4 = 2 ∨ p % 4 = 3 := by omega
  unfold ahd
  rcases cs with c | c | c | c
  · rw [c]
    refine ⟨fun e => absurd e (by decide), fun _ => ⟨fun e => ⟨?_, rfl⟩, fun e => ⟨?_, rfl⟩⟩, fun e => absurd e (by decide), fun e => absurd e (by decide)⟩
    · rw [ep (by omega)] at e
      rw [if_pos rfl, if_neg (by omega)]; rfl
    · rw [ep (by omega)] at e
      have hge : w ≤ p / 4 := by
        have h3 := Nat.div_add_mod (p / 4) w
        have h5 : w * 1 ≤ w * (p / 4 / w) := Nat.mul_le_mul_left w (by omega)
        omega
      rw [if_pos rfl, if_pos (by omega), pk_sub hge]; rfl
  · rw [c, ew1]
    refine ⟨fun e => absurd e (by decide), fun e => absurd e (by decide), fun _ => ⟨fun e => ⟨?_, rfl⟩, fun e => ⟨?_, rfl⟩⟩, fun e => absurd e (by decide)⟩
    · rw [nI_leI (by omega) (by omega)] at e
      rw [if_neg (by decide), if_pos rfl, if_neg (by omega)]; rfl
    · rw [nI_leI (by omega) (by omega)] at e
      rw [if_neg (by decide), if_pos rfl, if_pos (by omega), nI_1]; rfl
  · rw [c, eh1]
    refine ⟨fun e => absurd e (by decide), fun e => absurd e (by decide), fun e => absurd e (by decide), fun _ => ⟨fun e => ⟨?_, rfl⟩, fun e => ⟨?_, rfl⟩⟩⟩
    · rw [nI_leI (by omega) (by omega)] at e
      rw [if_neg (by decide), if_neg (by decide), if_pos rfl, if_neg (by omega)]; rfl
    · rw [nI_leI (by omega) (by omega)] at e
      rw [if_neg (by decide), if_neg (by decide), if_pos rfl, if_pos (by omega), nI_add]; rfl
  · rw [c]
    refine ⟨fun _ => ⟨fun e => ⟨?_, rfl⟩, fun e => ⟨?_, rfl⟩⟩, fun e => absurd e (by decide), fun e => absurd e (by decide), fun e => absurd e (by decide)⟩
    · rw [ep (by omega)] at e
      rw [if_neg (by decide), if_neg (by decide), if_neg (by decide), if_neg (by omega)]; rfl
    · rw [ep (by omega)] at e
      have hge : 1 ≤ p / 4 := by
        have := Nat.mod_le (p / 4) w
        omega
      rw [if_neg (by decide), if_neg (by decide), if_neg (by decide), if_pos (by omega), show nI (p / 4) - 1 = nI (p / 4 - 1) from pk_sub (b := 1) hge]; rfl
theorem sp_turned {p q : Nat} (hp : p < 1000) (hq : q < 4) : Cl g 1 mu_X3_turned [.int (nI p), .int (nI q)] (Z, I, L) (some (.int (nI (turnF p q)))) (Z, I, L) := by
  refine cp_X3_turned ⟨?_, rfl⟩
  have e4 : nI p / 4 = nI (p / 4) := pk_div (d := 4) (by omega) (by decide) (by decide)
  have er : nI p - nI p / 4 * 4 = nI (p % 4) := pk_rem (d := 4) (by omega) (by decide) (by decide)
  have er2 : nI (p % 4 + q) - nI (p % 4 + q) / 4 * 4 = nI ((p % 4 + q) % 4) := pk_rem (d := 4) (by omega) (by decide) (by decide)
  rw [er, nI_add, er2, e4, show nI (p / 4) * 4 = nI (p / 4 * 4) from pk_mul _ 4, nI_add]; rfl
theorem sp_plainDeed {tap : Nat} (ht : tap < 4) : Cl g 1 mu_X3_plainDeed [.int (nI tap)] (Z, I, L) (some (.int (nI (if tap = 3 then 0 else tap + 1)))) (Z, I, L) := by
  refine cp_X3_plainDeed ⟨fun e => ⟨?_, rfl⟩, fun e => ⟨?_, rfl⟩⟩
  · rw [if_neg (fun z => e (by rw [z]; rfl)), nI_1]
  · rw [if_pos ((nI_eq (b := 3) (by omega) (by decide)).mp e)]; rfl
/-- the names are told -/
theorem sp_lookAround (k : CS Z I w h S tx) (hm : MQ0 Z I) {p tap ka : Nat} (hp : p < 4 * (w * h)) : ∃ I1, Cl g 2 mu_X3_lookAround [rf g 66, .int (nI p), .int (nI tap), .int (nI ka)] (Z, I, L) none (Z, I1, L) ∧ (∀ j, j < 6 → I1 14 j = envS w (S 0) p tap ka j) ∧ ∀ a, a ≠ 14 → I1 a = I a := by
  have hw := k.2.1.mul
  obtain ⟨w1, w2, w3, w4⟩ := k.2.1
  have e4 : nI p / 4 = nI (p / 4) := pk_div (d := 4) (by omega) (by decide) (by decide)
  have er : nI p - nI p / 4 * 4 = nI (p % 4) := pk_rem (d := 4) (by omega) (by decide) (by decide)
  have ew : nI (p / 4) / nI w = nI (p / 4 / w) := pk_div (by omega) (by omega) (by omega)
  have em : nI (p / 4) - nI (p / 4) / nI w * nI w = nI (p / 4 % w) := pk_rem (by omega) (by omega) (by omega)
  have hw0 : ¬ nI w = 0 := nI_ne0 (by omega) (by omega)
  -- six names one behind the other
  have up : ∀ (J : Nat → Nat → Int32) (j : Nat) (v : Int32), (∀ a, a ≠ 14 → J a = I a) → (∀ a, a ≠ 14 → rw1 J 14 (upd (J 14) j v) a = I a) := fun J j v hJ a ha => by rw [rw1_n _ _ ha]; exact hJ a ha
  have ms : ∀ (J : Nat → Nat → Int32), (∀ a, a ≠ 14 → J a = I a) → MS Z J 13 14 15 [] := fun J hJ => hm.kept (by rw [hJ 13 (by decide)]) (hJ 15 (by decide))
  have rd : ∀ (J : Nat → Nat → Int32) (j i : Nat) (v : Int32), rw1 J 14 (upd (J 14) j v) 14 i = if i = j then v else J 14 i := fun J j i v => by rw [rw1_s]; rfl
  obtain ⟨J1, q1⟩ : ∃ J, J = rw1 I 14 (upd (I 14) 0 (nI tap)) := ⟨_, rfl⟩
  have f1 : ∀ a, a ≠ 14 → J1 a = I a := by rw [q1]; exact up I 0 _ (fun _ _ => rfl)
  obtain ⟨J2, q2⟩ : ∃ J, J = rw1 J1 14 (upd (J1 14) 1 (nI (p % 4))) := ⟨_, rfl⟩
  have f2 : ∀ a, a ≠ 14 → J2 a = I a := by rw [q2]; exact up J1 1 _ f1
  obtain ⟨J3, q3⟩ : ∃ J, J = rw1 J2 14 (upd (J2 14) 2 (nI (p / 4 % w))) := ⟨_, rfl⟩
  have f3 : ∀ a, a ≠ 14 → J3 a = I a := by rw [q3]; exact up J2 2 _ f2
  obtain ⟨J4, q4⟩ : ∃ J, J = rw1 J3 14 (upd (J3 14) 3 (nI (p / 4 / w))) := ⟨_, rfl⟩
  have f4 : ∀ a, a ≠ 14 → J4 a = I a := by rw [q4]; exact up J3 3 _ f3
  obtain ⟨J5, q5⟩ : ∃ J, J = rw1 J4 14 (upd (J4 14) 4 (nI ((S 0).getD (p / 4) 0))) := ⟨_, rfl⟩
  have f5 : ∀ a, a ≠ 14 → J5 a = I a := by rw [q5]; exact up J4 4 _ f4
  obtain ⟨J6, q6⟩ : ∃ J, J = rw1 J5 14 (upd (J5 14) 5 (nI ka)) := ⟨_, rfl⟩
  have f6 : ∀ a, a ≠ 14 → J6 a = I a := by rw [q6]; exact up J5 5 _ f5
  have k4 : CS Z J4 w h S tx := k.kept (fun a ha => f4 a (by rcases ha with ha | ha; (unfold stA at ha; omega); omega))
  refine ⟨J6, cp_X3_lookAround (k.1.k 66 3 (by decide) (by decide)) (k.1.r 66 1 13 (by decide)) (k.1.k 13 4 (by decide) (by decide)) (k.1.r 66 0 18 (by decide)) (k.1.k 18 8 (by decide) (by decide)) (k.1.r 18 2 40 (by decide)) (k.1.k 40 2 (by decide) (by decide)) (fun y1 hy1 => ?_), fun j hj => ?_, f6⟩
  · rw [e4] at hy1
    subst hy1
    have c1 := sp_name (g := g) (L := L) hm 0 (by decide) (nI tap)
    rw [← q1] at c1
    have c2 := sp_name (g := g) (L := L) (ms J1 f1) 1 (by decide) (nI (p % 4))
    rw [← q2] at c2
    have c3 := sp_name (g := g) (L := L) (ms J2 f2) 2 (by decide) (nI (p / 4 % w))
    rw [← q3] at c3
    have c4 := sp_name (g := g) (L := L) (ms J3 f3) 3 (by decide) (nI (p / 4 / w))
    rw [← q4] at c4
    have c5 := sp_name (g := g) (L := L) (ms J4 f4) 4 (by decide) (nI ((S 0).getD (p / 4) 0))
    rw [← q5] at c5
    have c6 := sp_name (g := g) (L := L) (ms J5 f5) 5 (by decide) (nI ka)
    rw [← q6] at c6
    have ca := sp_at (g := g) (L := L) (k4.il 0 (by decide)) (nI (p / 4))
    rw [atL_n _ (by omega)] at ca
    refine ⟨J1, L, c1, J2, L, by rw [er]; exact c2, ?_⟩
    rw [f2 18 (by decide), k.2.2.1]
    refine ⟨hw0, J3, L, by rw [em]; exact c3, ?_⟩
    rw [f3 18 (by decide), k.2.2.1]
    exact ⟨hw0, J4, L, by rw [ew]; exact c4, _, ca, J5, L, c5, J6, L, c6, rfl, rfl⟩
  · have cs : j = 0 ∨ j = 1 ∨ j = 2 ∨ j = 3 ∨ j = 4 ∨ j = 5 := by omega
    rw [q6, rd, q5, rd, q4, rd, q3, rd, q2, rd, q1, rd]
    rcases cs with rfl | rfl | rfl | rfl | rfl | rfl <;> rfl
end LEGS
