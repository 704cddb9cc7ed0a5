/-! lists in the class's rows of numbers -/
/-- the row of numbers at o, its array at b of cap places, holds the list xs -/
def IL (Z : Zs) (I : Nat → Nat → Int32) (o b cap : Nat) (xs : List Nat) : Prop := KM Z o 2 ∧ Z.2.1 o 0 = some b ∧ KM Z b 13 ∧ Z.2.2.1 b = cap ∧ cap ≤ 60000 ∧ xs.length ≤ cap ∧ I o 1 = nI xs.length ∧ ∀ k v, xs[k]? = some v → I b k = nI v
theorem KM.ne {Z : Zs} {a b s t : Nat} (h : KM Z a s) (k : KM Z b t) (hst : s ≠ t) : a ≠ b := fun e => hst (by rw [← h.2, ← k.2, e])
theorem IL.kept {Z : Zs} {I I1 : Nat → Nat → Int32} {o b cap : Nat} {xs : List Nat} (h : IL Z I o b cap xs) (ho : I1 o 1 = I o 1) (hb : ∀ k, k < cap → I1 b k = I b k) : IL Z I1 o b cap xs := by
  obtain ⟨h1, h2, h3, h4, h5, h6, h7, h8⟩ := h
  refine ⟨h1, h2, h3, h4, h5, h6, by rw [ho]; exact h7, fun k v hk => ?_⟩
  have hl := (List.getElem?_eq_some_iff.mp hk).1
  rw [hb k (by omega)]
  exact h8 k v hk
theorem IL.at {Z : Zs} {I : Nat → Nat → Int32} {o b cap : Nat} {xs : List Nat} (h : IL Z I o b cap xs) {k : Nat} (hk : k < xs.length) : I b k = nI (xs.getD k 0) := by
  rw [h.2.2.2.2.2.2.2 k _ (List.getElem?_eq_getElem hk)]
  simp [List.getD, List.getElem?_eq_getElem hk]
/-- what at() answers -/
def atL (xs : List Nat) (i : Int32) : Int32 := if i < 0 then 0 else nI (xs.getD i.toNatClampNeg 0)
theorem atL_n (xs : List Nat) {k : Nat} (hk : k < 2 ^ 31) : atL xs (nI k) = nI (xs.getD k 0) := by
  unfold atL
  rw [if_neg (nI_pos hk), nI_clamp hk]
theorem minI {a b : Nat} (ha : a < 2 ^ 31) (hb : b < 2 ^ 31) : (if nI a < nI b then nI a else nI b) = nI (min a b) := by
  by_cases h : a < b
  · rw [if_pos ((nI_ltI ha hb).mpr h), Nat.min_eq_left (by omega)]
  · rw [if_neg (fun e => h ((nI_ltI ha hb).mp e)), Nat.min_eq_right (by omega)]
theorem maxI {a b : Nat} (ha : a < 2 ^ 31) (hb : b < 2 ^ 31) : (if nI a < nI b then nI b else nI a) = nI (max a b) := by
  by_cases h : a < b
  · rw [if_pos ((nI_ltI ha hb).mpr h), Nat.max_eq_right (by omega)]
  · rw [if_neg (fun e => h ((nI_ltI ha hb).mp e)), Nat.max_eq_left (by omega)]
section INTS
variable {g : GE} {Z : Zs} {I : Nat → Nat → Int32} {L : Nat → Nat → Int64} {o b cap : Nat} {xs : List Nat}
theorem sp_size (h : IL Z I o b cap xs) : Cl g 1 mu_X2_size [rf g o] (Z, I, L) (some (.int (nI xs.length))) (Z, I, L) := by
  refine cp_X2_size h.1 ⟨?_, rfl⟩
  rw [h.2.2.2.2.2.2.1]
theorem sp_at (h : IL Z I o b cap xs) (i : Int32) : Cl g 1 mu_X2_at [rf g o, .int i] (Z, I, L) (some (.int (atL xs i))) (Z, I, L) := by
  obtain ⟨h1, h2, h3, h4, h5, h6, h7, h8⟩ := id h
  refine cp_X2_at h1 h2 h3 ⟨fun hi => ⟨?_, rfl⟩, fun hi => ?_⟩
  · unfold atL; rw [if_pos hi]
  obtain ⟨j, hj, rfl⟩ := nI_of hi
  rw [atL_n xs hj, h7, nI_leI (by omega) hj, nI_clamp hj, h4]
  refine ⟨fun hl => ⟨?_, rfl⟩, fun hl => ⟨vp_in_nI (by omega) (by omega), ?_, rfl⟩⟩
  · rw [List.getD_eq_getElem?_getD, List.getElem?_eq_none hl]; rfl
  · rw [h.at (by omega)]
theorem sp_put (h : IL Z I o b cap xs) (i : Int32) (v : Nat) : ∃ I1, Cl g 1 mu_X2_put [rf g o, .int i, .int (nI v)] (Z, I, L) none (Z, I1, L) ∧ IL Z I1 o b cap (if i < 0 then xs else xs.set i.toNatClampNeg v) ∧ ∀ a, a ≠ b → I1 a = I a := by
  obtain ⟨h1, h2, h3, h4, h5, h6, h7, h8⟩ := id h
  have hob : o ≠ b := h1.ne h3 (by decide)
  by_cases hi : i < 0
  · rw [if_pos hi]
    refine ⟨I, cp_X2_put h1 h2 h3 ⟨fun _ => ⟨rfl, rfl⟩, fun hc => absurd hi hc⟩, h, fun _ _ => rfl⟩
  rw [if_neg hi]
  obtain ⟨j, hj, rfl⟩ := nI_of hi
  rw [nI_clamp hj]
  by_cases hl : xs.length ≤ j
  · rw [List.set_eq_of_length_le hl]
    refine ⟨I, cp_X2_put h1 h2 h3 ⟨fun hc => absurd hc hi, fun _ => ⟨fun _ => ⟨rfl, rfl⟩, fun hc => absurd ?_ hc⟩⟩, h, fun _ _ => rfl⟩
    rw [h7, nI_leI (by omega) hj]; exact hl
  refine ⟨rw1 I b (upd (I b) j (nI v)), cp_X2_put h1 h2 h3 ⟨fun hc => absurd hc hi, fun _ => ⟨fun hc => absurd ?_ hl, fun _ => ⟨?_, fun I2 hI2 => ⟨rfl, ?_⟩⟩⟩⟩, ⟨h1, h2, h3, h4, h5, by rw [List.length_set]; exact h6, ?_, fun k w hk => ?_⟩, fun a ha => rw1_n _ _ ha⟩
  · rw [h7, nI_leI (by omega) hj] at hc; exact hc
  · rw [h4]; exact vp_in_nI (by omega) (by omega)
  · rw [hI2, nI_clamp hj]
  · rw [List.length_set, rw1_n _ _ hob]; exact h7
  · rw [rw1_s]
    rw [List.getElem?_set] at hk
    unfold upd
    by_cases hkj : j = k
    · subst hkj
      rw [if_pos rfl, if_pos (by omega)] at hk
      rw [if_pos rfl, Option.some.inj hk]
    · rw [if_neg hkj] at hk
      rw [if_neg (fun e => hkj e.symm)]
      exact h8 k w hk
theorem sp_add (h : IL Z I o b cap xs) (v : Nat) : ∃ I1, Cl g 1 mu_X2_add [rf g o, .int (nI v)] (Z, I, L) none (Z, I1, L) ∧ IL Z I1 o b cap (if xs.length < cap then xs ++ [v] else xs) ∧ ∀ a, a ≠ o → a ≠ b → I1 a = I a := by
  obtain ⟨h1, h2, h3, h4, h5, h6, h7, h8⟩ := id h
  have hob : o ≠ b := h1.ne h3 (by decide)
  by_cases hl : xs.length < cap
  · rw [if_pos hl]
    refine ⟨rw1 (rw1 I b (upd (I b) xs.length (nI v))) o (upd (I o) 1 (nI (xs.length + 1))), cp_X2_add h1 h2 h3 ⟨fun hc => absurd hc ?_, fun _ => ⟨?_, fun I1 hI1 I2 hI2 => ⟨rfl, ?_⟩⟩⟩, ⟨h1, h2, h3, h4, h5, ?_, ?_, fun k w hk => ?_⟩, fun a ha hb => ?_⟩
    · rw [h4, h7, nI_leI (by omega) (by omega)]; omega
    · rw [h4, h7]; exact vp_in_nI hl (by omega)
    · have e1 : I1 o = I o := by rw [hI1]; exact rw1_n _ _ hob
      rw [hI2, e1, h7, hI1, h7, nI_clamp (by omega), nI_1]
    · rw [List.length_append, List.length_singleton]; omega
    · rw [rw1_s, List.length_append, List.length_singleton]; rfl
    · rw [rw1_n _ _ (Ne.symm hob), rw1_s]
      unfold upd
      by_cases hkl : k < xs.length
      · rw [List.getElem?_append_left hkl] at hk
        rw [if_neg (by omega)]
        exact h8 k w hk
      · have hkl2 := (List.getElem?_eq_some_iff.mp hk).1
        rw [List.length_append, List.length_singleton] at hkl2
        have hke : k = xs.length := by omega
        subst hke
        rw [if_pos rfl]
        rw [List.getElem?_append_right (Nat.le_refl _), Nat.sub_self] at hk
        rw [Option.some.inj hk]
    · rw [rw1_n _ _ ha, rw1_n _ _ hb]
  · rw [if_neg hl]
    refine ⟨I, cp_X2_add h1 h2 h3 ⟨fun _ => ⟨rfl, rfl⟩, fun hc => absurd ?_ hc⟩, h, fun _ _ _ => rfl⟩
    rw [h4, h7, nI_leI (by omega) (by omega)]; omega
/-- a row cut to the length m -/
theorem IL.cut (h : IL Z I o b cap xs) (m : Nat) {I1 : Nat → Nat → Int32} (hI : I1 = rw1 I o (upd (I o) 1 (nI (min m xs.length)))) : IL Z I1 o b cap (xs.take m) ∧ ∀ a, a ≠ o → I1 a = I a := by
  obtain ⟨h1, h2, h3, h4, h5, h6, h7, h8⟩ := id h
  have hob : o ≠ b := h1.ne h3 (by decide)
  subst hI
  refine ⟨⟨h1, h2, h3, h4, h5, by rw [List.length_take]; omega, by rw [rw1_s, List.length_take]; rfl, fun k w hk => ?_⟩, fun a ha => rw1_n _ _ ha⟩
  rw [rw1_n _ _ (Ne.symm hob)]
  rw [List.getElem?_take] at hk
  split at hk
  · exact h8 k w hk
  · cases hk
theorem sp_cutTo (h : IL Z I o b cap xs) (i : Int32) : ∃ I1, Cl g 2 mu_X2_cutTo [rf g o, .int i] (Z, I, L) none (Z, I1, L) ∧ IL Z I1 o b cap (if i < 0 then [] else xs.take i.toNatClampNeg) ∧ ∀ a, a ≠ o → I1 a = I a := by
  have h7 := h.2.2.2.2.2.2.1
  have h6 := h.2.2.2.2.2.1
  have h5 := h.2.2.2.2.1
  by_cases hi : i < 0
  · rw [if_pos hi]
    obtain ⟨k1, k2⟩ := h.cut 0 (I1 := rw1 I o (upd (I o) 1 (nI (min 0 xs.length)))) rfl
    refine ⟨_, cp_X2_cutTo h.1 (fun I1 hI1 => ⟨rfl, ?_⟩), k1, k2⟩
    rw [hI1, h7]
    have e1 : (if i < nI xs.length then i else nI xs.length) = i := by
      rw [if_pos]
      have := nI_pos' (n := xs.length) (by omega)
      exact Int32.lt_of_lt_of_le hi this
    rw [e1, if_neg (by intro hc; exact Int32.lt_irrefl (Int32.lt_trans hc hi)), Nat.zero_min]; rfl
  · rw [if_neg hi]
    obtain ⟨j, hj, rfl⟩ := nI_of hi
    rw [nI_clamp hj]
    obtain ⟨k1, k2⟩ := h.cut j (I1 := rw1 I o (upd (I o) 1 (nI (min j xs.length)))) rfl
    refine ⟨_, cp_X2_cutTo h.1 (fun I1 hI1 => ⟨rfl, ?_⟩), k1, k2⟩
    rw [hI1, h7]
    have e1 : (if nI j < nI xs.length then nI j else nI xs.length) = nI (min j xs.length) := minI hj (by omega)
    rw [e1]
    by_cases h0 : min j xs.length = 0
    · rw [h0, nI_0, if_neg (by decide)]
    · rw [if_pos]
      rw [← nI_0, nI_ltI (by omega) (by omega)]; omega
theorem sp_dropFirst (h : IL Z I o b cap xs) : ∃ I1, Cl g 2 mu_X2_dropFirst [rf g o] (Z, I, L) none (Z, I1, L) ∧ IL Z I1 o b cap (xs.drop 1) ∧ ∀ a, a ≠ o → a ≠ b → I1 a = I a := by
  obtain ⟨h1, h2, h3, h4, h5, h6, h7, h8⟩ := id h
  have hob : o ≠ b := h1.ne h3 (by decide)
  by_cases hl : xs.length = 0
  · have hx : xs = [] := List.length_eq_zero_iff.mp hl
    refine ⟨I, cp_X2_dropFirst h1 h2 h3 ⟨fun _ => ⟨rfl, rfl⟩, fun hc => absurd ?_ hc⟩, by rw [hx] at h ⊢; exact h, fun _ _ _ => rfl⟩
    rw [h7, hl, nI_0]; decide
  have e1 : nI xs.length - 1 = nI (xs.length - 1) := by
    rw [show xs.length = (xs.length - 1) + 1 by omega, nI_pred]; rfl
  refine ⟨rw1 (rw1 I b (va_cpy (I b) (I b) 1 0 (xs.length - 1))) o (upd (I o) 1 (nI (xs.length - 1))), cp_X2_dropFirst h1 h2 h3 ⟨fun hc => absurd hc ?_, fun _ => ⟨by decide, by decide, ?_, ?_, ?_, fun I2 hI2 I3 hI3 => ⟨rfl, ?_⟩⟩⟩, ⟨h1, h2, h3, h4, h5, ?_, ?_, fun k w hk => ?_⟩, fun a ha hb => ?_⟩
  · rw [h7]; exact nI_nle (by omega) (by omega)
  · rw [h7, e1]; exact nI_pos (by omega)
  · rw [h7, e1, h4, nI_clamp (by omega), show (1 : Int32).toNatClampNeg = 1 by decide]; omega
  · rw [h7, e1, h4, nI_clamp (by omega), show (0 : Int32).toNatClampNeg = 0 by decide]; omega
  · have e2 : I2 o = I o := by rw [hI2]; exact rw1_n _ _ hob
    rw [hI3, e2, hI2, h7, e1, nI_clamp (by omega)]; rfl
  · rw [List.length_drop]; omega
  · rw [rw1_s, List.length_drop]; rfl
  · rw [rw1_n _ _ (Ne.symm hob), rw1_s]
    have hkl := (List.getElem?_eq_some_iff.mp hk).1
    rw [List.length_drop] at hkl
    rw [List.getElem?_drop] at hk
    unfold va_cpy
    rw [if_pos ⟨by omega, by omega⟩]
    exact h8 _ w hk
  · rw [rw1_n _ _ ha, rw1_n _ _ hb]
theorem sp_copyFrom {o2 b2 cap2 : Nat} {ys : List Nat} (h : IL Z I o b cap xs) (k : IL Z I o2 b2 cap2 ys) (hc : ys.length ≤ cap) : ∃ I1, Cl g 2 mu_X2_copyFrom [rf g o, rf g o2] (Z, I, L) none (Z, I1, L) ∧ IL Z I1 o b cap ys ∧ ∀ a, a ≠ o → a ≠ b → I1 a = I a := by
  obtain ⟨h1, h2, h3, h4, h5, h6, h7, h8⟩ := id h
  obtain ⟨k1, k2, k3, k4, k5, k6, k7, k8⟩ := id k
  have hob : o ≠ b := h1.ne h3 (by decide)
  have hob2 : o ≠ b2 := h1.ne k3 (by decide)
  refine ⟨rw1 (rw1 I o (upd (I o) 1 (nI ys.length))) b (va_cpy (I b2) (I b) 0 0 ys.length), cp_X2_copyFrom h1 k1 h2 h3 k2 k3 (fun I1 hI1 => ?_), ⟨h1, h2, h3, h4, h5, hc, ?_, fun j w hj => ?_⟩, fun a ha hb => ?_⟩
  · have e1 : (if nI (Z.2.2.1 b) < I o2 1 then nI (Z.2.2.1 b) else I o2 1) = nI ys.length := by
      rw [h4, k7, minI (by omega) (by omega), Nat.min_eq_right hc]
    rw [e1] at hI1
    have e2 : I1 o 1 = nI ys.length := by rw [hI1, rw1_s]; rfl
    rw [e2, nI_clamp (by omega), show (0 : Int32).toNatClampNeg = 0 by decide, h4, k4]
    refine ⟨by decide, by decide, nI_pos (by omega), by omega, by omega, fun I3 hI3 => ⟨rfl, ?_⟩⟩
    rw [hI3, hI1, rw1_n _ _ (Ne.symm hob2), rw1_n _ _ (Ne.symm hob)]
  · rw [rw1_n _ _ hob, rw1_s]; rfl
  · rw [rw1_s]
    have hjl := (List.getElem?_eq_some_iff.mp hj).1
    unfold va_cpy
    rw [if_pos ⟨by omega, by omega⟩]
    rw [show 0 + (j - 0) = j by omega]
    exact k8 j w hj
  · rw [rw1_n _ _ hb, rw1_n _ _ ha]
end INTS
