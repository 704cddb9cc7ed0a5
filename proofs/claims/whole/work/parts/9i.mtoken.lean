/-! the model's nextToken() -/
abbrev isS (c : Nat) : Prop := c = 60 ∨ c = 62 ∨ c = 61 ∨ c = 35 ∨ c = 43 ∨ c = 45 ∨ c = 42 ∨ c = 47 ∨ c = 40 ∨ c = 41 ∨ c = 59 ∨ c = 44 ∨ c = 63 ∨ c = 58
theorem sg_t1 {c : Nat} (h : isS c) : (sgnF c = 36 → c = 44) ∧ (¬ sgnF c = 36 → tcL.getD (sgnF c) 0 = c) ∧ c < 100 ∧ ¬ c = 2 := by
  rcases h with rfl | rfl | rfl | rfl | rfl | rfl | rfl | rfl | rfl | rfl | rfl | rfl | rfl | rfl <;> decide
def sgB (c : Nat) : Bool := [60, 62, 61, 35, 43, 45, 42, 47, 40, 41, 59, 44, 63, 58].contains c
theorem sg_t0 : ∀ c, c < 64 → (sgnF c == 36 || sgB c) = true ∧ (sgnF c == 19) = false ∧ (sgnF c == 37) = false := by decide
theorem sg_t2 {c : Nat} (h : ¬ isS c) : sgnF c = 36 := by
  by_cases hc : c < 64
  · have := (sg_t0 c hc).1
    rw [Bool.or_eq_true] at this
    rcases this with z | z
    · exact eq_of_beq z
    · exfalso
      have m : c ∈ [60, 62, 61, 35, 43, 45, 42, 47, 40, 41, 59, 44, 63, 58] := List.contains_iff_mem.mp z
      simp only [List.mem_cons, List.not_mem_nil, or_false] at m
      exact h m
  · exact sgn_hi (by omega)
theorem sg_t3 (c : Nat) : ¬ sgnF c = 19 ∧ ¬ sgnF c = 37 := by
  by_cases hc : c < 64
  · have := (sg_t0 c hc).2
    exact ⟨fun z => by rw [z] at this; exact absurd this.1 (by decide), fun z => by rw [z] at this; exact absurd this.2 (by decide)⟩
  · rw [sgn_hi (by omega)]; decide
theorem run_all {f : Nat → Bool} {tp : List Nat} : ∀ (k p j : Nat), p ≤ j → j < runF f tp k p → f (tp.getD j 0) = true := by
  intro k
  induction k with
  | zero => intro p j h1 h2; have h2 : j < p := h2; omega
  | succ k ih =>
    intro p j h1 h2
    have h2 : j < (if f (tp.getD p 0) = true then runF f tp k (p + 1) else p) := h2
    by_cases hf : f (tp.getD p 0) = true
    · rw [if_pos hf] at h2
      by_cases he : j = p
      · rw [he]; exact hf
      · exact ih (p + 1) j (by omega) h2
    · rw [if_neg hf] at h2; omega
theorem run_mem {f : Nat → Bool} {tp : List Nat} {k p : Nat} {c : Nat} (hc : c ∈ (tp.drop p).take (runF f tp k p - p)) : f c = true := by
  obtain ⟨j, hj, he⟩ := List.mem_iff_getElem.mp hc
  have h2 := hj
  rw [List.length_take] at h2
  have e : ((tp.drop p).take (runF f tp k p - p))[j]? = some c := by rw [List.getElem?_eq_getElem hj, he]
  rw [List.getElem?_take, if_pos (by omega), List.getElem?_drop] at e
  have := run_all k p (p + j) (by omega) (by omega) (f := f) (tp := tp)
  rw [List.getD_eq_getElem?_getD, e] at this
  exact this
theorem lt_byt {c : Nat} (h : isLt c = true) : 0 < c ∧ c < 256 := by
  by_cases hc : c < 256
  · refine ⟨?_, hc⟩
    by_cases h0 : c = 0
    · rw [h0] at h; cases h
    · omega
  · unfold isLt at h
    rw [decide_eq_false (show ¬ c ≤ 122 by omega), decide_eq_false (show ¬ c ≤ 90 by omega), Bool.and_false, Bool.and_false] at h
    cases h
theorem wC_ne : ∀ w, w < 19 → ¬ wC w = 0 := by decide +kernel
section MTOK
variable {g : GE} {Z : Zs} {tp : List Nat}
theorem in_len {f : Nat → Bool} (h0 : f 0 = false) {p : Nat} (h : f (tp.getD p 0) = true) : p < tp.length := by
  by_cases hp : p < tp.length
  · exact hp
  · rw [List.getD_eq_getElem?_getD, List.getElem?_eq_none (by omega)] at h
    have h : f 0 = true := h
    rw [h0] at h; cases h
theorem dg_85 (hS : Sh Z) (h8 : T8 tp) {L : Nat → Nat → Int64} : ∀ (k p v m : Nat) (I : Nat → Nat → Int32), tp.length ≤ k + p → p ≤ 300 → MT I tp → I 76 9 = nI p → I 76 12 = nI m → NRz v m → ∃ I1, Lp_X12_nextToken_85 g 3 76 (Z, I, L) none (Z, I1, L) ∧ NFz I I1 ∧ I1 76 10 = I 76 10 ∧ I1 76 11 = I 76 11 ∧ I1 76 9 = nI (runF isDg tp k p) ∧ ∃ m', I1 76 12 = nI m' ∧ NRz (numF tp k p v) m' := by
  have k76 := hS.k 76 12 (by decide) (by decide)
  intro k
  induction k with
  | zero =>
    intro p v m I hl hp hT h9 h12 hn
    have b := sp_byteAt (g := g) (L := L) hS hT (p := p) (by omega)
    have d := sp_mDg (g := g) (Z := Z) (I := I) (L := L) h8 p
    have e : isDg (tp.getD p 0) = false := by
      cases h : isDg (tp.getD p 0) with
      | false => rfl
      | true => have := in_len (f := isDg) rfl h; omega
    rw [e] at d
    exact ⟨I, wp_X12_nextToken_85 k76 ⟨_, by rw [h9]; exact b, _, d, fun _ => ⟨rfl, rfl⟩, fun z => absurd rfl z⟩, NFz.refl I, rfl, rfl, h9, m, h12, hn⟩
  | succ k ih =>
    intro p v m I hl hp hT h9 h12 hn
    have b := sp_byteAt (g := g) (L := L) hS hT (p := p) (by omega)
    have d := sp_mDg (g := g) (Z := Z) (I := I) (L := L) h8 p
    have er : runF isDg tp (k + 1) p = if isDg (tp.getD p 0) = true then runF isDg tp k (p + 1) else p := rfl
    have en : numF tp (k + 1) p v = if isDg (tp.getD p 0) = true then numF tp k (p + 1) (min 10000 (10 * v + tp.getD p 0 - 48)) else v := rfl
    rw [er, en]
    cases e : isDg (tp.getD p 0) with
    | false =>
      rw [e] at d
      rw [if_neg (by decide), if_neg (by decide)]
      exact ⟨I, wp_X12_nextToken_85 k76 ⟨_, by rw [h9]; exact b, _, d, fun _ => ⟨rfl, rfl⟩, fun z => absurd rfl z⟩, NFz.refl I, rfl, rfl, h9, m, h12, hn⟩
    | true =>
      rw [e] at d
      rw [if_pos rfl, if_pos rfl]
      have hpl := in_len (f := isDg) rfl e
      have c1 : 48 ≤ tp.getD p 0 ∧ tp.getD p 0 ≤ 57 := by
        unfold isDg at e
        rw [Bool.and_eq_true] at e
        exact ⟨of_decide_eq_true e.1, of_decide_eq_true e.2⟩
      have hl2 := hT.2.1
      have hm : m ≤ 1000000 := by rcases hn with z | z <;> omega
      have ebA : bAt tp p = nI (tp.getD p 0) := if_pos hpl
      by_cases hbig : 100000 ≤ m
      · obtain ⟨J, hJ⟩ : ∃ J, J = rw1 I 76 (upd (I 76) 9 (nI (p + 1))) := ⟨_, rfl⟩
        have nJ1 : NFz I J := by rw [hJ]; exact NFz.put I (by decide) (by decide) _
        obtain ⟨I1, f1, f2, f3, f4, f5, f6⟩ := ih (p + 1) (min 10000 (10 * v + tp.getD p 0 - 48)) m J (by omega) (by omega) (hT.nf nJ1) (by rw [hJ, rw1_s, upd_s]) (by rw [hJ, rw1_s, upd_n _ _ (by decide)]; exact h12) (by unfold NRz at hn ⊢; omega)
        refine ⟨I1, wp_X12_nextToken_85 k76 ⟨_, by rw [h9]; exact b, _, d, fun z => absurd z (by decide), fun _ => ⟨fun _ I5 h5 => ?_, fun z => ?_⟩⟩, nJ1.trans f2, ?_, ?_, f5, f6⟩
        · rw [h9, nI_1, ← hJ] at h5; rw [h5]; exact f1
        · rw [h12] at z; exact absurd ((nI_leI (a := 100000) (by decide) (by omega)).mpr hbig) z
        · rw [f3, hJ, rw1_s, upd_n _ _ (by decide)]
        · rw [f4, hJ, rw1_s, upd_n _ _ (by decide)]
      · obtain ⟨J0, hJ0⟩ : ∃ J, J = rw1 I 76 (upd (I 76) 12 (nI (10 * m + tp.getD p 0 - 48))) := ⟨_, rfl⟩
        obtain ⟨J, hJ⟩ : ∃ J, J = rw1 J0 76 (upd (J0 76) 9 (nI (p + 1))) := ⟨_, rfl⟩
        have nJ1 : NFz I J := by
          rw [hJ, hJ0]; exact (NFz.put I (by decide) (by decide) _).trans (NFz.put _ (by decide) (by decide) _)
        have j9 : J0 76 9 = nI p := by rw [hJ0, rw1_s, upd_n _ _ (by decide)]; exact h9
        obtain ⟨I1, f1, f2, f3, f4, f5, f6⟩ := ih (p + 1) (min 10000 (10 * v + tp.getD p 0 - 48)) (10 * m + tp.getD p 0 - 48) J (by omega) (by omega) (hT.nf nJ1) (by rw [hJ, rw1_s, upd_s]) (by rw [hJ, rw1_s, upd_n _ _ (by decide), hJ0, rw1_s, upd_s]) (by unfold NRz at hn ⊢; omega)
        refine ⟨I1, wp_X12_nextToken_85 k76 ⟨_, by rw [h9]; exact b, _, d, fun z => absurd z (by decide), fun _ => ⟨fun z => ?_, fun _ => ⟨_, by rw [h9]; exact b, fun I8 h8' I9 h9' => ?_⟩⟩⟩, nJ1.trans f2, ?_, ?_, f5, f6⟩
        · rw [h12] at z; exact absurd ((nI_leI (a := 100000) (by decide) (by omega)).mp z) hbig
        · rw [h12, ebA, show (10 : Int32) * nI m = nI (10 * m) from pk_mul 10 m, nI_add, show nI (10 * m + tp.getD p 0) - 48 = nI (10 * m + tp.getD p 0 - 48) from (pk_sub (show 48 ≤ 10 * m + tp.getD p 0 by omega)), ← hJ0] at h8'
          rw [h8', j9, nI_1, ← hJ] at h9'
          rw [h9']; exact f1
        · rw [f3, hJ, rw1_s, upd_n _ _ (by decide), hJ0, rw1_s, upd_n _ _ (by decide)]
        · rw [f4, hJ, rw1_s, upd_n _ _ (by decide), hJ0, rw1_s, upd_n _ _ (by decide)]
theorem lt_161 (hS : Sh Z) (h8 : T8 tp) {p0 : Nat} (hp0 : p0 ≤ tp.length) : ∀ (k p : Nat) (I : Nat → Nat → Int32) (L : Nat → Nat → Int64), tp.length ≤ k + p → p ≤ tp.length → p0 ≤ p → (∀ j, p0 ≤ j → j < p → isLt (tp.getD j 0) = true) → MT I tp → I 76 9 = nI p → I 76 10 = nI p0 → L 76 13 = nJ (wvN ((tp.drop p0).take (min 7 (p - p0)))) → ∃ I1 L1, Lp_X12_nextToken_161 g 3 76 (Z, I, L) none (Z, I1, L1) ∧ NFz I I1 ∧ I1 76 10 = I 76 10 ∧ I1 76 11 = I 76 11 ∧ I1 76 9 = nI (runF isLt tp k p) ∧ L1 76 13 = (if runF isLt tp k p - p0 ≤ 7 then nJ (wvN ((tp.drop p0).take (runF isLt tp k p - p0))) else 0) := by
  have k76 := hS.k 76 12 (by decide) (by decide)
  have fin : ∀ (p : Nat) (I : Nat → Nat → Int32) (L : Nat → Nat → Int64), p ≤ tp.length → p0 ≤ p → MT I tp → I 76 9 = nI p → I 76 10 = nI p0 → L 76 13 = nJ (wvN ((tp.drop p0).take (min 7 (p - p0)))) → isLt (tp.getD p 0) = false → ∃ I1 L1, Lp_X12_nextToken_161 g 3 76 (Z, I, L) none (Z, I1, L1) ∧ NFz I I1 ∧ I1 76 10 = I 76 10 ∧ I1 76 11 = I 76 11 ∧ I1 76 9 = nI p ∧ L1 76 13 = (if p - p0 ≤ 7 then nJ (wvN ((tp.drop p0).take (p - p0))) else 0) := by
    intro p I L hp hpp hT h9 h10 hL e
    have hl2 := hT.2.1
    have b := sp_byteAt (g := g) (L := L) hS hT (p := p) (by omega)
    have d := sp_mLt (g := g) (Z := Z) (I := I) (L := L) h8 p
    rw [e] at d
    have es : I 76 9 - I 76 10 = nI (p - p0) := by rw [h9, h10]; exact pk_sub hpp
    by_cases h7 : p - p0 ≤ 7
    · rw [if_pos h7]
      refine ⟨I, L, wp_X12_nextToken_161 k76 ⟨_, by rw [h9]; exact b, _, d, fun _ => ⟨fun _ => ⟨rfl, rfl⟩, fun z => ?_⟩, fun z => absurd rfl z⟩, NFz.refl I, rfl, rfl, h9, by rw [hL, Nat.min_eq_right h7]⟩
      rw [es] at z; exact absurd ((nI_leI (b := 7) (by omega) (by decide)).mpr h7) z
    · rw [if_neg h7]
      refine ⟨I, rw1 L 76 (vp_updL (L 76) 13 0), wp_X12_nextToken_161 k76 ⟨_, by rw [h9]; exact b, _, d, fun _ => ⟨fun z => ?_, fun _ L5 h5 => ⟨rfl, by rw [h5]⟩⟩, fun z => absurd rfl z⟩, NFz.refl I, rfl, rfl, h9, ?_⟩
      · rw [es] at z; exact absurd ((nI_leI (b := 7) (by omega) (by decide)).mp z) h7
      · rw [rw1_s]; exact if_pos rfl
  intro k
  induction k with
  | zero =>
    intro p I L hl hp hpp ha hT h9 h10 hL
    refine fin p I L hp hpp hT h9 h10 hL ?_
    cases h : isLt (tp.getD p 0) with
    | false => rfl
    | true => have := in_len (f := isLt) rfl h; omega
  | succ k ih =>
    intro p I L hl hp hpp ha hT h9 h10 hL
    have hl2 := hT.2.1
    have er : runF isLt tp (k + 1) p = if isLt (tp.getD p 0) = true then runF isLt tp k (p + 1) else p := rfl
    rw [er]
    cases e : isLt (tp.getD p 0) with
    | false => rw [if_neg (by decide)]; exact fin p I L hp hpp hT h9 h10 hL e
    | true =>
      rw [if_pos rfl]
      have b := sp_byteAt (g := g) (L := L) hS hT (p := p) (by omega)
      have d := sp_mLt (g := g) (Z := Z) (I := I) (L := L) h8 p
      rw [e] at d
      have hpl := in_len (f := isLt) rfl e
      have es : I 76 9 - I 76 10 = nI (p - p0) := by rw [h9, h10]; exact pk_sub hpp
      have ebA : bAt tp p = nI (tp.getD p 0) := if_pos hpl
      have hc := lt_byt e
      obtain ⟨J, hJ⟩ : ∃ J, J = rw1 I 76 (upd (I 76) 9 (nI (p + 1))) := ⟨_, rfl⟩
      have nJ1 : NFz I J := by rw [hJ]; exact NFz.put I (by decide) (by decide) _
      have ha2 : ∀ j, p0 ≤ j → j < p + 1 → isLt (tp.getD j 0) = true := fun j h1 h2 => by
        by_cases he : j = p
        · rw [he]; exact e
        · exact ha j h1 (by omega)
      have j10 : J 76 10 = nI p0 := by rw [hJ, rw1_s, upd_n _ _ (by decide)]; exact h10
      by_cases h7 : 7 ≤ p - p0
      · obtain ⟨I1, L1, f1, f2, f3, f4, f5⟩ := ih (p + 1) J L (by omega) (by omega) (by omega) ha2 (hT.nf nJ1) (by rw [hJ, rw1_s, upd_s]) j10 (by rw [hL, show min 7 (p - p0) = min 7 (p + 1 - p0) by omega])
        refine ⟨I1, L1, wp_X12_nextToken_161 k76 ⟨_, by rw [h9]; exact b, _, d, fun z => absurd z (by decide), fun _ => ⟨fun _ I6 h6 => ?_, fun z => ?_⟩⟩, nJ1.trans f2, ?_, ?_, f5⟩
        · rw [h9, nI_1, ← hJ] at h6; rw [h6]; exact f1
        · rw [es] at z; exact absurd ((nI_leI (a := 7) (by decide) (by omega)).mpr h7) z
        · rw [f3, hJ, rw1_s, upd_n _ _ (by decide)]
        · rw [f4, hJ, rw1_s, upd_n _ _ (by decide)]
      · obtain ⟨l, hl0⟩ : ∃ l, l = (tp.drop p0).take (p - p0) := ⟨_, rfl⟩
        have ll : l.length = p - p0 := by rw [hl0, List.length_take, List.length_drop]; omega
        have lb : ∀ c ∈ l, c < 256 := fun c hc => by
          rw [hl0] at hc
          obtain ⟨j, hj⟩ := List.mem_iff_getElem?.mp (List.mem_of_mem_take hc)
          rw [List.getElem?_drop] at hj
          exact h8 _ c hj
        have hb := wv_lt lb (n := 6) (by omega)
        have el : (tp.drop p0).take (p + 1 - p0) = l ++ [tp.getD p 0] := by
          rw [hl0, show p + 1 - p0 = (p - p0) + 1 by omega, List.take_add_one, List.getElem?_drop, show p0 + (p - p0) = p by omega, List.getElem?_eq_getElem hpl, List.getD_eq_getElem?_getD, List.getElem?_eq_getElem hpl]; rfl
        obtain ⟨L2, hL2⟩ : ∃ L2, L2 = rw1 L 76 (vp_updL (L 76) 13 (nJ (wvN (l ++ [tp.getD p 0])))) := ⟨_, rfl⟩
        obtain ⟨I1, L1, f1, f2, f3, f4, f5⟩ := ih (p + 1) J L2 (by omega) (by omega) (by omega) ha2 (hT.nf nJ1) (by rw [hJ, rw1_s, upd_s]) j10 (by rw [Nat.min_eq_right (show p + 1 - p0 ≤ 7 by omega), el, hL2, rw1_s]; exact if_pos rfl)
        refine ⟨I1, L1, wp_X12_nextToken_161 k76 ⟨_, by rw [h9]; exact b, _, d, fun z => absurd z (by decide), fun _ => ⟨fun z => ?_, fun _ => ⟨_, by rw [h9]; exact b, fun L9 hL9 I10 hI10 => ?_⟩⟩⟩, nJ1.trans f2, ?_, ?_, f5⟩
        · rw [es] at z; exact absurd ((nI_leI (a := 7) (by decide) (by omega)).mp z) h7
        · rw [h9, nI_1, ← hJ] at hI10
          rw [hL, Nat.min_eq_right (show p - p0 ≤ 7 by omega), ← hl0, ebA, sh8 hb hc.2, ← wv_snoc, ← hL2] at hL9
          rw [hI10, hL9]; exact f1
        · rw [f3, hJ, rw1_s, upd_n _ _ (by decide)]
        · rw [f4, hJ, rw1_s, upd_n _ _ (by decide)]
end MTOK
