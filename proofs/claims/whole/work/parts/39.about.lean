/-! about(), on both sides -/
def aboutN (w h : Nat) (S : Nat → List Nat) (n t v : Nat) : Int32 := if v = 0 then nI w else if v = 1 then nI h else if v = 2 then nI (S 1).length else if v = 3 then nI n else if v = 4 then nI (S 3).length else if v = 5 then nI (S 4).length else if v = 6 then nI (S 6).length else if v = 7 then nI (S 9).length else if v = 8 then nI (S 10).length else if v = 9 then nI t else if v < 10 + w * h then nI ((S 0).getD (v - 10) 0) else -2
def aboutF (w h : Nat) (S : Nat → List Nat) (n t : Nat) (x : Int32) : Int32 := if x < 0 then -2 else aboutN w h S n t x.toNatClampNeg
section ABOUT
variable {g : GE} {Z : Zs} {I : Nat → Nat → Int32} {L : Nat → Nat → Int64} {w h : Nat} {S : Nat → List Nat} {tx : List TX} {tp : List Nat}
theorem nI_nlit {v : Nat} (hv : v < 2 ^ 31) {c : Nat} (hc : c < 2 ^ 31) (h : v ≠ c) : ¬ nI v = nI c := fun e => h ((nI_eq hv hc).mp e)
theorem op_about (c : CL Z I w h S tx) (hT : IL Z I 1 2 300 tp) (x : Int32) : Cl g 2 mu_X11_about [rf g 0, .int x] (Z, I, L) (some (.int (aboutF w h S tx.length tp.length x))) (Z, I, L) := by
  obtain ⟨k, hW, -⟩ := id c
  have hm := k.2.1.mul
  have hwh := k.2.1
  refine cp_X11_about (k.1.k 0 11 (by decide) (by decide)) (k.1.r 0 0 18 (by decide)) (k.1.k 18 8 (by decide) (by decide)) (k.1.r 18 2 40 (by decide)) (k.1.k 40 2 (by decide) (by decide)) (k.1.r 18 3 19 (by decide)) (k.1.k 19 2 (by decide) (by decide)) (k.1.r 18 5 23 (by decide)) (k.1.k 23 2 (by decide) (by decide)) (k.1.r 18 6 25 (by decide)) (k.1.k 25 2 (by decide) (by decide)) (k.1.r 18 8 29 (by decide)) (k.1.k 29 2 (by decide) (by decide)) (k.1.r 18 11 35 (by decide)) (k.1.k 35 2 (by decide) (by decide)) (k.1.r 18 12 37 (by decide)) (k.1.k 37 2 (by decide) (by decide)) (k.1.r 0 2 1 (by decide)) (k.1.k 1 2 (by decide) (by decide)) ⟨fun e => ⟨fun e2 => ⟨?_, rfl⟩, fun e2 => ?_⟩, fun e => ⟨?_, rfl⟩, fun e => ⟨?_, rfl⟩, fun e => ⟨_, sp_size (k.il 1 (by decide)), ?_, rfl⟩, fun e => ⟨?_, rfl⟩, fun e => ⟨_, sp_size (k.il 3 (by decide)), ?_, rfl⟩, fun e => ⟨_, sp_size (k.il 4 (by decide)), ?_, rfl⟩, fun e => ⟨_, sp_size (k.il 6 (by decide)), ?_, rfl⟩, fun e => ⟨_, sp_size (k.il 9 (by decide)), ?_, rfl⟩, fun e => ⟨_, sp_size (k.il 10 (by decide)), ?_, rfl⟩, fun e => ⟨_, sp_size hT, ?_, rfl⟩⟩
  · rcases e with e | e
    · unfold aboutF; rw [if_pos e]
    · have h0 : ¬ x < 0 := fun z => absurd (Int32.lt_trans e z) (by decide)
      obtain ⟨v, hv, rfl⟩ := nI_of h0
      have h1 := (nI_ltI (a := 9) (by decide) hv).mp e
      have h2 := (nI_ltI (b := 10) hv (by decide)).mp e2
      omega
  · have h0 : ¬ x < 0 := fun z => e2 (Int32.lt_trans z (by decide))
    obtain ⟨v, hv, rfl⟩ := nI_of h0
    have h2 : 10 ≤ v := Nat.le_of_not_lt (fun z => e2 ((nI_ltI (b := 10) hv (by decide)).mpr z))
    rw [show nI v - 10 = nI (v - 10) from pk_sub (b := 10) h2]
    have ea : aboutF w h S tx.length tp.length (nI v) = if v < 10 + w * h then nI ((S 0).getD (v - 10) 0) else -2 := by
      unfold aboutF aboutN
      rw [if_neg h0, nI_clamp hv, if_neg (by omega), if_neg (by omega), if_neg (by omega), if_neg (by omega), if_neg (by omega), if_neg (by omega), if_neg (by omega), if_neg (by omega), if_neg (by omega), if_neg (by omega)]
    rw [ea]
    by_cases hc : v < 10 + w * h
    · have ca := sp_at (g := g) (L := L) (k.il 0 (by decide)) (nI (v - 10))
      rw [atL_n _ (by omega)] at ca
      rw [if_pos hc]
      exact ⟨_, sp_isCell k _, fun e => absurd e (ite_1 (nI_in0 (by omega) (by omega))), fun _ => ⟨_, ca, rfl, rfl⟩⟩
    · rw [if_neg hc]
      refine ⟨_, sp_isCell k _, fun _ => ⟨rfl, rfl⟩, fun e => absurd (ite_0 (fun z => ?_)) e⟩
      exact absurd z.2 (fun y => absurd y (Int32.not_lt.mpr (nI_le (show w * h ≤ v - 10 by omega) (by omega))))
  · subst e; rw [k.2.2.1]; rfl
  · subst e; rw [k.2.2.2.1]; rfl
  · subst e; rfl
  · subst e; rw [k.2.2.2.2.2.2.1]; rfl
  · subst e; rfl
  · subst e; rfl
  · subst e; rfl
  · subst e; rfl
  · subst e; rfl
  · subst e; rfl
theorem mo_about (m : MB Z I w h S tx) (hT : MT I tp) (x : Int32) : Cl g 2 mu_X12_about [rf g 76, .int x] (Z, I, L) (some (.int (aboutF w h S tx.length tp.length x))) (Z, I, L) := by
  obtain ⟨k, hW, hr⟩ := id m
  obtain ⟨hM, c0, c1, c2, c3, c4, c5, c6⟩ := k.2.2.2.2.1
  have hm := k.2.1.mul
  have ew : (9 : Int32) + I 76 2 * I 76 3 = nI (9 + w * h) := by rw [k.2.2.1, k.2.2.2.1, pk_mul]; exact nI_add 9 _
  have ci := sp_isIn (g := g) (Z := Z) (I := I) (L := L) x 10 (9 + I 76 2 * I 76 3)
  refine cp_X12_about (k.1.k 76 12 (by decide) (by decide)) (k.1.r 76 0 77 (by decide)) (k.1.k 77 13 (by decide) (by decide)) ⟨_, ci, fun e => ⟨fun e2 => ⟨?_, rfl⟩, fun e => ⟨?_, rfl⟩, fun e => ⟨?_, rfl⟩, fun e => ⟨vin k (j := 0) (by decide), ?_, rfl⟩, fun e => ⟨vin k (j := 1) (by decide), ?_, rfl⟩, fun e => ⟨vin k (j := 2) (by decide), ?_, rfl⟩, fun e => ⟨vin k (j := 3) (by decide), ?_, rfl⟩, fun e => ⟨vin k (j := 4) (by decide), ?_, rfl⟩, fun e => ⟨vin k (j := 5) (by decide), ?_, rfl⟩, fun e => ⟨vin k (j := 6) (by decide), ?_, rfl⟩, fun e => ⟨?_, rfl⟩⟩, fun e => ?_⟩
  · by_cases h0 : x < 0
    · unfold aboutF; rw [if_pos h0]
    · obtain ⟨v, hv, rfl⟩ := nI_of h0
      rcases e2 with e2 | e2
      · exact absurd e2 h0
      · have h1 := (nI_ltI (a := 9) (by decide) hv).mp e2
        unfold aboutF aboutN
        rw [if_neg h0, nI_clamp hv, if_neg (by omega), if_neg (by omega), if_neg (by omega), if_neg (by omega), if_neg (by omega), if_neg (by omega), if_neg (by omega), if_neg (by omega), if_neg (by omega), if_neg (by omega)]
        by_cases hc : v < 10 + w * h
        · refine absurd e (ite_1 ⟨fun z => ?_, fun z => ?_⟩)
          · exact absurd ((nI_ltI (b := 10) hv (by decide)).mp z) (by omega)
          · rw [ew] at z
            exact absurd z (Int32.not_lt.mpr (nI_le (show v ≤ 9 + w * h by omega) (by omega)))
        · rw [if_neg hc]
  · subst e; rw [k.2.2.1]; rfl
  · subst e; rw [k.2.2.2.1]; rfl
  · subst e; rw [show I 77 (0 : Int32).toNatClampNeg = nI (S 1).length from c0]; rfl
  · subst e; rw [show I 77 (1 : Int32).toNatClampNeg = nI tx.length from c1]; rfl
  · subst e; rw [show I 77 (2 : Int32).toNatClampNeg = nI (S 3).length from c2]; rfl
  · subst e; rw [show I 77 (3 : Int32).toNatClampNeg = nI (S 4).length from c3]; rfl
  · subst e; rw [show I 77 (4 : Int32).toNatClampNeg = nI (S 6).length from c4]; rfl
  · subst e; rw [show I 77 (5 : Int32).toNatClampNeg = nI (S 9).length from c5]; rfl
  · subst e; rw [show I 77 (6 : Int32).toNatClampNeg = nI (S 10).length from c6]; rfl
  · subst e; rw [hT.1]; rfl
  · by_cases hc : ¬ x < 10 ∧ ¬ 9 + I 76 2 * I 76 3 < x
    · have h0 : ¬ x < 0 := fun z => hc.1 (Int32.lt_trans z (by decide))
      obtain ⟨v, hv, rfl⟩ := nI_of h0
      have h1 : 10 ≤ v := Nat.le_of_not_lt (fun z => hc.1 ((nI_ltI (b := 10) hv (by decide)).mpr z))
      have h2 : v ≤ 9 + w * h := by
        rcases Nat.lt_or_ge (9 + w * h) v with z | z
        · exact absurd (by rw [ew]; exact nI_lt z hv) hc.2
        · exact z
      rw [show (10 : Int32) + nI v - 10 = nI v from by rw [show (10 : Int32) + nI v = nI (10 + v) from nI_add 10 v, show nI (10 + v) - 10 = nI (10 + v - 10) from pk_sub (b := 10) (by omega)]; congr 1; omega, nI_clamp hv]
      have ea : I 77 v = nI ((S 0).getD (v - 10) 0) := by
        have h0l : (S 0).length = w * h := hW.1
        have := k.atD 0 (by decide) (j := v - 10) (by omega)
        rw [show mB 0 + mDl 0 * (v - 10) = v by show 10 + 1 * (v - 10) = v; omega] at this
        exact this
      refine ⟨vin k (by omega), ?_, rfl⟩
      unfold aboutF aboutN
      rw [if_neg h0, nI_clamp hv, if_neg (by omega), if_neg (by omega), if_neg (by omega), if_neg (by omega), if_neg (by omega), if_neg (by omega), if_neg (by omega), if_neg (by omega), if_neg (by omega), if_neg (by omega), if_pos (by omega), ea]
    · exact absurd (ite_0 hc) e
end ABOUT
