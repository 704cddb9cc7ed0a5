/-! the model's nextToken(), whole -/
section MNX
variable {g : GE} {Z : Zs} {tp : List Nat}
theorem word_ok {p : Nat} (hl : tp.length ≤ 300) (hp : p < tp.length) : (∀ w, w < 19 → ((if runF isLt tp 300 p - p ≤ 7 then nJ (wvN ((tp.drop p).take (runF isLt tp 300 p - p))) else 0) = wC w ↔ wxF (wkF (wdF ((tp.drop p).take (runF isLt tp 300 p - p)))) (wvF (wdF ((tp.drop p).take (runF isLt tp 300 p - p)))) = w)) := by
  intro w hw
  have hge := run_ge (f := isLt) (tp := tp) 300 p
  have hle := run_le (f := isLt) (tp := tp) rfl 300 p (by omega)
  have hb : ∀ c ∈ (tp.drop p).take (runF isLt tp 300 p - p), 0 < c ∧ c < 256 := fun c hc => lt_byt (run_mem (f := isLt) hc)
  obtain ⟨l, hl0⟩ : ∃ l, l = (tp.drop p).take (runF isLt tp 300 p - p) := ⟨_, rfl⟩
  have ll : l.length = runF isLt tp 300 p - p := by rw [hl0, List.length_take, List.length_drop]; omega
  rw [← hl0] at hb ⊢
  obtain ⟨w1, w2⟩ := wd_iff l
  rw [← wx_of w1 w hw, ← w2 w hw, ← ll]
  have sl := sp_l7 w hw
  have sb := sp_byt w hw
  by_cases h7 : l.length ≤ 7
  · rw [if_pos h7]
    unfold wC
    have a := wv_lt (fun c hc => (hb c hc).2) h7
    have b := wv_lt (fun c hc => (sb c hc).2) sl.1
    rw [nJ_eq (Nat.lt_trans a (by decide)) (Nat.lt_trans b (by decide))]
    exact ⟨fun e => wv_inj hb sb e, fun e => by rw [e]⟩
  · rw [if_neg h7]
    exact ⟨fun e => absurd e.symm (wC_ne w hw), fun e => by rw [e] at h7; omega⟩
/-- behind a sign -/
theorem sg_344 (hS : Sh Z) (h8 : T8 tp) {p : Nat} (hp : p < tp.length) {I : Nat → Nat → Int32} {L : Nat → Nat → Int64} (hT : MT I tp) (h9 : I 76 9 = nI (p + 1)) (h10 : I 76 10 = nI p) (hL : isLt (tp.getD p 0) = false) (hD : isDg (tp.getD p 0) = false) {s0 : Int32} (hs : s0 = if isS (tp.getD p 0) then 1 else 0) : ∃ I1, Lp_X12_nextToken_344 g 3 76 (nI (tp.getD p 0)) s0 (Z, I, L) none (Z, I1, L) ∧ NFz I I1 ∧ I1 76 10 = nI p ∧ I1 76 9 = nI (tkF tp p).2.2 ∧ TokM I1 L (tkF tp p).1 (tkF tp p).2.1 ∧ ¬ (tkF tp p).1 = 37 ∧ p < (tkF tp p).2.2 ∧ (tkF tp p).2.2 ≤ tp.length := by
  have k76 := hS.k 76 12 (by decide) (by decide)
  have hl2 := hT.2.1
  obtain ⟨c, hc⟩ : ∃ c, c = tp.getD p 0 := ⟨_, rfl⟩
  have hc8 : c < 256 := by rw [hc]; exact h8.at p
  have kq : ∀ x, x < 256 → (nI c = nI x ↔ c = x) := fun x hx => nI_eq (by omega) (by omega)
  have q60 : nI c = 60 ↔ c = 60 := kq 60 (by decide)
  have q62 : nI c = 62 ↔ c = 62 := kq 62 (by decide)
  obtain ⟨t, ht⟩ : ∃ t, t = if isS c then c else 3 := ⟨_, rfl⟩
  obtain ⟨J, hJ⟩ : ∃ J, J = rw1 I 76 (upd (I 76) 11 (nI t)) := ⟨_, rfl⟩
  have n1 : NFz I J := by rw [hJ]; exact NFz.put I (by decide) (by decide) _
  have j9 : J 76 9 = nI (p + 1) := by rw [hJ, rw1_s, upd_n _ _ (by decide)]; exact h9
  have j10 : J 76 10 = nI p := by rw [hJ, rw1_s, upd_n _ _ (by decide)]; exact h10
  have j11 : J 76 11 = nI t := by rw [hJ, rw1_s, upd_s]
  have go : ∀ {M' : Mem}, (((nI c = 60 ∨ nI c = 62) → Lp_X12_nextToken_370 g 3 76 (nI c) (Z, J, L) none M') ∧ (¬ (nI c = 60 ∨ nI c = 62) → M' = (Z, J, L))) → Lp_X12_nextToken_344 g 3 76 (nI c) s0 (Z, I, L) none M' := fun {M'} h => by
    refine wp_X12_nextToken_344 k76 ⟨fun z I1 h1 => ?_, fun z I1 h1 => ?_⟩
    · have e : I1 = J := by
        have ns : ¬ isS c := fun y => by rw [hs, ← hc, if_pos y] at z; exact absurd z (by decide)
        rw [h1, hJ, ht, if_neg ns]; rfl
      rw [e]
      exact ⟨fun y => h.1 (Or.inl y), fun y => ⟨fun y2 => ⟨rfl, h.2 (fun q => q.elim y y2)⟩, fun y2 => h.1 (Or.inr y2)⟩⟩
    · have e : I1 = J := by
        have ns : isS c := Classical.byContradiction (fun y => z (by rw [hs, ← hc, if_neg y]))
        rw [h1, hJ, ht, if_pos ns]
      rw [e]
      exact ⟨fun y => h.1 (Or.inl y), fun y => ⟨fun y2 => ⟨rfl, h.2 (fun q => q.elim y y2)⟩, fun y2 => h.1 (Or.inr y2)⟩⟩
  have tk1 : tkF tp p = if (c = 60 ∨ c = 62) ∧ tp.getD (p + 1) 0 = 61 then (sgnF c + 1, 0, p + 2) else (sgnF c, 0, p + 1) := by
    unfold tkF
    rw [hL, hD, if_neg (by decide), if_neg (by decide), ← hc]
  have plain : ¬ ((c = 60 ∨ c = 62) ∧ tp.getD (p + 1) 0 = 61) → TokM J L (tkF tp p).1 (tkF tp p).2.1 := fun hn => by
    rw [tk1, if_neg hn]
    show TokM J L (sgnF c) 0
    have t3 := sg_t3 c
    by_cases hS' : isS c
    · have t1 := sg_t1 hS'
      rw [if_pos hS'] at ht
      exact ⟨t, j11, by omega, fun z => by rw [t1.2.1 z, ht], fun z => Or.inr (Or.inr (by rw [ht]; exact t1.1 z)), fun z => absurd z t3.1, fun z => absurd (by rw [← ht]; exact z) t1.2.2.2⟩
    · have t2 := sg_t2 hS'
      rw [if_neg hS'] at ht
      exact ⟨t, j11, by omega, fun z => absurd t2 z, fun _ => Or.inr (Or.inl ht), fun z => absurd z t3.1, fun z => absurd z (by omega)⟩
  have b := sp_byteAt (g := g) (L := L) hS (hT.nf n1) (p := p + 1) (by omega)
  by_cases h6 : c = 60 ∨ c = 62
  · by_cases h61 : tp.getD (p + 1) 0 = 61
    · have hp1 : p + 1 < tp.length := in_len (f := fun x => decide (x = 61)) rfl (by show decide _ = true; rw [h61]; rfl)
      have eb : bAt tp (p + 1) = 61 := by unfold bAt; rw [if_pos hp1, h61]; rfl
      rw [eb] at b
      obtain ⟨J2, hJ2⟩ : ∃ J2, J2 = rw1 J 76 (upd (J 76) 9 (nI (p + 2))) := ⟨_, rfl⟩
      obtain ⟨J3, hJ3⟩ : ∃ J3, J3 = rw1 J2 76 (upd (J2 76) 11 (nI (if c = 60 then 4 else 5))) := ⟨_, rfl⟩
      have n2 : NFz J J3 := by rw [hJ3, hJ2]; exact (NFz.put J (by decide) (by decide) _).trans (NFz.put _ (by decide) (by decide) _)
      have et : tkF tp p = (sgnF c + 1, 0, p + 2) := by rw [tk1, if_pos ⟨h6, h61⟩]
      rw [et]
      have h370 : Lp_X12_nextToken_370 g 3 76 (nI c) (Z, J, L) none (Z, J3, L) := by
        refine wp_X12_nextToken_370 k76 ⟨_, by rw [j9]; exact b, fun z => absurd rfl z, fun _ I3 h3 => ?_⟩
        have e3 : I3 = J2 := by rw [h3, j9, hJ2, nI_1]
        rw [e3]
        refine ⟨fun z I4 h4 => ⟨rfl, ?_⟩, fun z I5 h5 => ⟨rfl, ?_⟩⟩
        · rw [h4, hJ3, if_neg (fun y => z (q60.mpr y))]; rfl
        · rw [h5, hJ3, if_pos (q60.mp z)]; rfl
      refine ⟨J3, by rw [← hc]; exact go ⟨fun _ => h370, fun z => absurd (h6.imp q60.mpr q62.mpr) z⟩, n1.trans n2, ?_, ?_, ?_, ?_, by show p < p + 2; omega, by show p + 2 ≤ tp.length; omega⟩
      · rw [hJ3, rw1_s, upd_n _ _ (by decide), hJ2, rw1_s, upd_n _ _ (by decide)]; exact j10
      · rw [hJ3, rw1_s, upd_n _ _ (by decide), hJ2, rw1_s, upd_s]
      · have j : J3 76 11 = nI (if c = 60 then 4 else 5) := by rw [hJ3, rw1_s, upd_s]
        rcases h6 with z | z
        · rw [z] at j ⊢
          show TokM J3 L (sgnF 60 + 1) 0
          exact ⟨4, j, by decide, fun _ => rfl, fun y => absurd y (by decide), fun y => absurd y (by decide), fun y => absurd y (by decide)⟩
        · rw [z] at j ⊢
          show TokM J3 L (sgnF 62 + 1) 0
          exact ⟨5, j, by decide, fun _ => rfl, fun y => absurd y (by decide), fun y => absurd y (by decide), fun y => absurd y (by decide)⟩
      · show ¬ sgnF c + 1 = 37
        rcases h6 with z | z <;> rw [z] <;> decide
    · have hn : ¬ ((c = 60 ∨ c = 62) ∧ tp.getD (p + 1) 0 = 61) := fun z => h61 z.2
      have eb : ¬ bAt tp (p + 1) = 61 := by
        unfold bAt
        by_cases hp1 : p + 1 < tp.length
        · rw [if_pos hp1]
          exact fun z => h61 ((nI_eq (b := 61) (by have := h8.at (p + 1); omega) (by decide)).mp z)
        · rw [if_neg hp1]; decide
      have et : (tkF tp p).2.2 = p + 1 := by rw [tk1, if_neg hn]
      refine ⟨J, by rw [← hc]; exact go ⟨fun _ => wp_X12_nextToken_370 k76 ⟨_, by rw [j9]; exact b, fun _ => ⟨rfl, rfl⟩, fun z => absurd z eb⟩, fun _ => rfl⟩, n1, j10, by rw [et]; exact j9, plain hn, by rw [tk1, if_neg hn]; exact (sg_t3 c).2, by rw [et]; omega, by rw [et]; omega⟩
  · have hn : ¬ ((c = 60 ∨ c = 62) ∧ tp.getD (p + 1) 0 = 61) := fun z => h6 z.1
    have et : (tkF tp p).2.2 = p + 1 := by rw [tk1, if_neg hn]
    refine ⟨J, by rw [← hc]; exact go ⟨fun z => absurd (z.imp q60.mp q62.mp) h6, fun _ => rfl⟩, n1, j10, by rw [et]; exact j9, plain hn, by rw [tk1, if_neg hn]; exact (sg_t3 c).2, by rw [et]; omega, by rw [et]; omega⟩
/-- the next token is this one; behind it stand the others -/
def NTz (tp : List Nat) (k p : Nat) (I1 : Nat → Nat → Int32) (L1 : Nat → Nat → Int64) : Prop := ∃ kd q vl rest, scF tp k p = (kd, q, vl) :: rest ∧ I1 76 10 = nI q ∧ TokM I1 L1 kd vl ∧ ((kd = 37 ∧ rest = []) ∨ (¬ kd = 37 ∧ ∃ k2 p2, rest = scF tp k2 p2 ∧ tp.length ≤ k2 + p2 ∧ p2 ≤ tp.length ∧ I1 76 9 = nI p2))
theorem nt_0 (hS : Sh Z) (h8 : T8 tp) {L : Nat → Nat → Int64} : ∀ (k p : Nat) (I : Nat → Nat → Int32), tp.length ≤ k + p → p ≤ tp.length → MT I tp → I 76 9 = nI p → ∃ I1 L1, Lp_X12_nextToken_0 g 3 76 (Z, I, L) none (Z, I1, L1) ∧ NFz I I1 ∧ NTz tp k p I1 L1 := by
  have k76 := hS.k 76 12 (by decide) (by decide)
  have fin : ∀ (p : Nat) (I : Nat → Nat → Int32), p = tp.length → MT I tp → I 76 9 = nI p → ∃ I1 L1, Lp_X12_nextToken_0 g 3 76 (Z, I, L) none (Z, I1, L1) ∧ NFz I I1 ∧ I1 76 10 = nI tp.length ∧ TokM I1 L1 37 0 := fun p I hp hT h9 => by
    have hl2 := hT.2.1
    have b := sp_byteAt (g := g) (L := L) hS hT (p := p) (by omega)
    have eb : bAt tp p = -1 := if_neg (by omega)
    rw [eb] at b
    obtain ⟨J, hJ⟩ : ∃ J, J = rw1 I 76 (upd (I 76) 10 (nI p)) := ⟨_, rfl⟩
    have n1 : NFz I J := by rw [hJ]; exact NFz.put I (by decide) (by decide) _
    have j9 : J 76 9 = nI p := by rw [hJ, rw1_s, upd_n _ _ (by decide)]; exact h9
    have b2 := sp_byteAt (g := g) (L := L) hS (hT.nf n1) (p := p) (by omega)
    rw [eb] at b2
    obtain ⟨J2, hJ2⟩ : ∃ J2, J2 = rw1 J 76 (upd (J 76) 11 0) := ⟨_, rfl⟩
    have n2 : NFz J J2 := by rw [hJ2]; exact NFz.put J (by decide) (by decide) _
    refine ⟨J2, L, wp_X12_nextToken_0 k76 ⟨_, by rw [h9]; exact b, fun z => absurd z (by decide), fun _ => ⟨_, by rw [h9]; exact b, fun _ I6 h6 => ?_, fun z => absurd z (by decide)⟩⟩, n1.trans n2, ?_, ?_⟩
    · rw [h9, ← hJ] at h6
      rw [h6]
      exact ⟨_, by rw [j9]; exact b2, fun z => absurd z (by decide), fun _ I18 h18 => ⟨rfl, by rw [h18, ← hJ2]⟩⟩
    · rw [hJ2, rw1_s, upd_n _ _ (by decide), hJ, rw1_s, upd_s, hp]
    · exact ⟨0, by rw [hJ2, rw1_s, upd_s]; rfl, by decide, fun _ => rfl, fun z => absurd z (by decide), fun z => absurd z (by decide), fun z => absurd z (by decide)⟩
  intro k
  induction k with
  | zero =>
    intro p I hl hp hT h9
    obtain ⟨I1, L1, a1, a2, a3, a4⟩ := fin p I (by omega) hT h9
    exact ⟨I1, L1, a1, a2, 37, tp.length, 0, [], rfl, a3, a4, Or.inl ⟨rfl, rfl⟩⟩
  | succ k ih =>
    intro p I hl hp hT h9
    have hl2 := hT.2.1
    have es : scF tp (k + 1) p = (if tp.length ≤ p then [(37, tp.length, 0)] else if tp.getD p 0 = 32 ∨ tp.getD p 0 = 10 then scF tp k (p + 1) else ((tkF tp p).1, p, (tkF tp p).2.1) :: scF tp k (tkF tp p).2.2) := rfl
    unfold NTz
    rw [es]
    by_cases he : tp.length ≤ p
    · rw [if_pos he]
      obtain ⟨I1, L1, a1, a2, a3, a4⟩ := fin p I (by omega) hT h9
      exact ⟨I1, L1, a1, a2, 37, tp.length, 0, [], rfl, a3, a4, Or.inl ⟨rfl, rfl⟩⟩
    rw [if_neg he]
    have hpl : p < tp.length := by omega
    obtain ⟨c, hc⟩ : ∃ c, c = tp.getD p 0 := ⟨_, rfl⟩
    have hc8 : c < 256 := by rw [hc]; exact h8.at p
    have kq : ∀ x, x < 256 → (nI c = nI x ↔ c = x) := fun x hx => nI_eq (by omega) (by omega)
    have eb : bAt tp p = nI c := by rw [hc]; exact if_pos hpl
    have b := sp_byteAt (g := g) (L := L) hS hT (p := p) (by omega)
    rw [eb] at b
    have q32 : nI c = 32 ↔ c = 32 := kq 32 (by decide)
    have q10 : nI c = 10 ↔ c = 10 := kq 10 (by decide)
    by_cases hb : tp.getD p 0 = 32 ∨ tp.getD p 0 = 10
    · rw [if_pos hb]
      rw [← hc] at hb
      obtain ⟨J, hJ⟩ : ∃ J, J = rw1 I 76 (upd (I 76) 9 (nI (p + 1))) := ⟨_, rfl⟩
      have n1 : NFz I J := by rw [hJ]; exact NFz.put I (by decide) (by decide) _
      obtain ⟨I1, L1, f1, f2, f3⟩ := ih (p + 1) J (by omega) (by omega) (hT.nf n1) (by rw [hJ, rw1_s, upd_s])
      refine ⟨I1, L1, wp_X12_nextToken_0 k76 ⟨_, by rw [h9]; exact b, fun _ I3 h3 => ?_, fun z => ⟨_, by rw [h9]; exact b, fun z2 => absurd hb (fun y => y.elim (fun x => z (q32.mpr x)) (fun x => z2 (q10.mpr x))), fun _ I19 h19 => ?_⟩⟩, n1.trans f2, f3⟩
      · rw [h9, nI_1, ← hJ] at h3; rw [h3]; exact f1
      · rw [h9, nI_1, ← hJ] at h19; rw [h19]; exact f1
    rw [if_neg hb]
    rw [← hc] at hb
    obtain ⟨J, hJ⟩ : ∃ J, J = rw1 I 76 (upd (I 76) 10 (nI p)) := ⟨_, rfl⟩
    have n1 : NFz I J := by rw [hJ]; exact NFz.put I (by decide) (by decide) _
    have j9 : J 76 9 = nI p := by rw [hJ, rw1_s, upd_n _ _ (by decide)]; exact h9
    have j10 : J 76 10 = nI p := by rw [hJ, rw1_s, upd_s]
    have b2 := sp_byteAt (g := g) (L := L) hS (hT.nf n1) (p := p) (by omega)
    rw [eb] at b2
    have dD := sp_mDg (g := g) (Z := Z) (I := J) (L := L) h8 p
    have dL := sp_mLt (g := g) (Z := Z) (I := J) (L := L) h8 p
    rw [eb] at dD dL
    have p0 : (0 : Int32) ≤ nI c := by rw [← nI_0]; exact nI_le (by omega) (by omega)
    have tn := tk_next (tp := tp) hpl
    -- what follows the place
    have go : ∀ {M' : Mem}, (isDg c = true → ∀ I17, I17 = rw1 (rw1 J 76 (upd (J 76) 11 1)) 76 (upd ((rw1 J 76 (upd (J 76) 11 1)) 76) 12 0) → Lp_X12_nextToken_85 g 3 76 (Z, I17, L) none M') → (isDg c = false → isLt c = true → ∀ I14, I14 = rw1 J 76 (upd (J 76) 11 2) → ∀ L15, L15 = rw1 L 76 (vp_updL (L 76) 13 0) → Lp_X12_nextToken_161 g 3 76 (Z, I14, L15) none M') → (isDg c = false → isLt c = false → ∀ I13, I13 = rw1 J 76 (upd (J 76) 9 (nI (p + 1))) → ∀ s0, s0 = (if isS c then (1 : Int32) else 0) → Lp_X12_nextToken_344 g 3 76 (nI c) s0 (Z, I13, L) none M') → Lp_X12_nextToken_0 g 3 76 (Z, I, L) none M' := fun {M'} g1 g2 g3 => by
      refine wp_X12_nextToken_0 k76 ⟨_, by rw [h9]; exact b, fun z => absurd (Or.inl (q32.mp z)) hb, fun _ => ⟨_, by rw [h9]; exact b, fun _ I6 h6 => ?_, fun z => absurd (Or.inr (q10.mp z)) hb⟩⟩
      rw [h9, ← hJ] at h6
      rw [h6]
      refine ⟨_, by rw [j9]; exact b2, fun _ => ⟨_, dD, fun z => ⟨_, dL, fun z2 I13 h13 => ?_, fun z2 I14 h14 L15 h15 => ?_⟩, fun z I16 h16 I17 h17 => ?_⟩, fun z => absurd p0 z⟩
      · have eD : isDg c = false := by
          cases x : isDg c with
          | false => rfl
          | true => rw [← hc, x] at z; exact absurd z (by decide)
        have eL : isLt c = false := by
          cases x : isLt c with
          | false => rfl
          | true => rw [← hc, x] at z2; exact absurd z2 (by decide)
        rw [j9, nI_1] at h13
        have H := g3 eD eL I13 h13
        have one : ∀ x, x < 256 → isS x → nI c = nI x → Lp_X12_nextToken_344 g 3 76 (nI c) 1 (Z, I13, L) none M' := fun x hx hs e => H 1 (by rw [(kq x hx).mp e, if_pos hs])
        refine ⟨one 60 (by decide) (by decide), fun y1 => ⟨one 62 (by decide) (by decide), fun y2 => ⟨one 61 (by decide) (by decide), fun y3 => ⟨one 35 (by decide) (by decide), fun y4 => ⟨one 43 (by decide) (by decide), fun y5 => ⟨one 45 (by decide) (by decide), fun y6 => ⟨one 42 (by decide) (by decide), fun y7 => ⟨one 47 (by decide) (by decide), fun y8 => ⟨one 40 (by decide) (by decide), fun y9 => ⟨one 41 (by decide) (by decide), fun y10 => ⟨one 59 (by decide) (by decide), fun y11 => ⟨one 44 (by decide) (by decide), fun y12 => ⟨one 63 (by decide) (by decide), fun y13 => ⟨fun y14 => H 0 ?_, one 58 (by decide) (by decide)⟩⟩⟩⟩⟩⟩⟩⟩⟩⟩⟩⟩⟩⟩
        rw [if_neg]
        intro hs
        rcases hs with h | h | h | h | h | h | h | h | h | h | h | h | h | h
        · exact y1 ((kq 60 (by decide)).mpr h)
        · exact y2 ((kq 62 (by decide)).mpr h)
        · exact y3 ((kq 61 (by decide)).mpr h)
        · exact y4 ((kq 35 (by decide)).mpr h)
        · exact y5 ((kq 43 (by decide)).mpr h)
        · exact y6 ((kq 45 (by decide)).mpr h)
        · exact y7 ((kq 42 (by decide)).mpr h)
        · exact y8 ((kq 47 (by decide)).mpr h)
        · exact y9 ((kq 40 (by decide)).mpr h)
        · exact y10 ((kq 41 (by decide)).mpr h)
        · exact y11 ((kq 59 (by decide)).mpr h)
        · exact y12 ((kq 44 (by decide)).mpr h)
        · exact y13 ((kq 63 (by decide)).mpr h)
        · exact y14 ((kq 58 (by decide)).mpr h)
      · have eD : isDg c = false := by
          cases x : isDg c with
          | false => rfl
          | true => rw [← hc, x] at z; exact absurd z (by decide)
        have eL : isLt c = true := by
          cases x : isLt c with
          | true => rfl
          | false => rw [← hc, x] at z2; exact absurd rfl z2
        exact g2 eD eL I14 h14 L15 h15
      · have eD : isDg c = true := by
          cases x : isDg c with
          | true => rfl
          | false => rw [← hc, x] at z; exact absurd rfl z
        rw [h16] at h17
        exact g1 eD I17 h17
    cases eD : isDg c with
    | true =>
      have eL : isLt c = false := by
        cases x : isLt c with
        | false => rfl
        | true =>
          unfold isDg at eD
          unfold isLt at x
          rw [Bool.and_eq_true] at eD
          have d2 := of_decide_eq_true eD.2
          rw [decide_eq_false (show ¬ 97 ≤ c by omega), decide_eq_false (show ¬ 65 ≤ c by omega)] at x
          cases x
      obtain ⟨J2, hJ2⟩ : ∃ J2, J2 = rw1 (rw1 J 76 (upd (J 76) 11 1)) 76 (upd ((rw1 J 76 (upd (J 76) 11 1)) 76) 12 0) := ⟨_, rfl⟩
      have n2 : NFz J J2 := by rw [hJ2]; exact (NFz.put J (by decide) (by decide) _).trans (NFz.put _ (by decide) (by decide) _)
      have et : tkF tp p = (19, numF tp 300 p 0, runF isDg tp 300 p) := by
        unfold tkF; rw [← hc, eL, eD, if_neg (by decide), if_pos rfl]
      obtain ⟨I1, f1, f2, f3, f4, f5, m, f6, f7⟩ := dg_85 (g := g) (L := L) hS h8 300 p 0 0 J2 (by omega) (by omega) (hT.nf (n1.trans n2)) (by rw [hJ2, rw1_s, upd_n _ _ (by decide), rw1_s, upd_n _ _ (by decide)]; exact j9) (by rw [hJ2, rw1_s, upd_s]; rfl) (Or.inl ⟨by decide, rfl⟩)
      rw [et] at tn ⊢
      refine ⟨I1, L, go (fun _ I17 h17 => by rw [h17, ← hJ2]; exact f1) (fun z => by rw [eD] at z; cases z) (fun z => by rw [eD] at z; cases z), (n1.trans n2).trans f2, 19, p, _, _, rfl, ?_, ⟨1, ?_, by decide, fun _ => rfl, fun z => absurd z (by decide), fun _ => ⟨m, f6, f7⟩, fun z => absurd z (by decide)⟩, Or.inr ⟨by decide, k, _, rfl, by have := tn.1; have := tn.2; omega, tn.2, f5⟩⟩
      · rw [f3, hJ2, rw1_s, upd_n _ _ (by decide), rw1_s, upd_n _ _ (by decide)]; exact j10
      · rw [f4, hJ2, rw1_s, upd_n _ _ (by decide), rw1_s, upd_s]; rfl
    | false =>
      cases eL : isLt c with
      | true =>
        obtain ⟨J2, hJ2⟩ : ∃ J2, J2 = rw1 J 76 (upd (J 76) 11 2) := ⟨_, rfl⟩
        have n2 : NFz J J2 := by rw [hJ2]; exact NFz.put J (by decide) (by decide) _
        obtain ⟨l, hl0⟩ : ∃ l, l = (tp.drop p).take (runF isLt tp 300 p - p) := ⟨_, rfl⟩
        have et : tkF tp p = (wkF (wdF l), wvF (wdF l), runF isLt tp 300 p) := by
          unfold tkF; rw [← hc, eL, if_pos rfl, ← hl0]
        have wo := word_ok (tp := tp) hl2 hpl
        rw [← hl0] at wo
        obtain ⟨I1, L1, f1, f2, f3, f4, f5, f6⟩ := lt_161 (g := g) hS h8 (p0 := p) hp 300 p J2 (rw1 L 76 (vp_updL (L 76) 13 0)) (by omega) hp (Nat.le_refl _) (fun j h1 h2 => absurd h2 (by omega)) (hT.nf (n1.trans n2)) (by rw [hJ2, rw1_s, upd_n _ _ (by decide)]; exact j9) (by rw [hJ2, rw1_s, upd_n _ _ (by decide)]; exact j10) (by rw [rw1_s, Nat.sub_self]; exact if_pos rfl)
        rw [et] at tn ⊢
        rw [← hl0] at f6
        have w19 := (wd_iff l).1
        have e11 : I1 76 11 = nI 2 := by rw [f4, hJ2, rw1_s, upd_s]; rfl
        refine ⟨I1, L1, go (fun z => by rw [eD] at z; cases z) (fun _ _ I14 h14 L15 h15 => by rw [h14, h15, ← hJ2]; exact f1) (fun _ z => by rw [eL] at z; cases z), (n1.trans n2).trans f2, wkF (wdF l), p, wvF (wdF l), _, rfl, ?_, ⟨2, e11, by decide, ?_, fun _ => Or.inl rfl, ?_, fun _ w hw => by rw [f6]; exact wo w hw⟩, Or.inr ⟨?_, k, _, rfl, by have := tn.1; have := tn.2; omega, tn.2, f5⟩⟩
        · rw [f3, hJ2, rw1_s, upd_n _ _ (by decide)]; exact j10
        · have : ∀ w, w ≤ 19 → ¬ wkF w = 36 → 2 = tcL.getD (wkF w) 0 := by
            intro w hw
            have h20 : w < 20 := by omega
            revert w; decide
          exact this _ w19
        · intro z
          exfalso
          have : ∀ w, w < 20 → ¬ wkF w = 19 := by decide
          exact this _ (by omega) z
        · have : ∀ w, w < 20 → ¬ wkF w = 37 := by decide
          exact this _ (by omega)
      | false =>
        obtain ⟨J2, hJ2⟩ : ∃ J2, J2 = rw1 J 76 (upd (J 76) 9 (nI (p + 1))) := ⟨_, rfl⟩
        have n2 : NFz J J2 := by rw [hJ2]; exact NFz.put J (by decide) (by decide) _
        obtain ⟨I1, f1, f2, f3, f4, f5, f6, f7, f8⟩ := sg_344 (g := g) (L := L) (s0 := if isS (tp.getD p 0) then 1 else 0) hS h8 hpl (hT.nf (n1.trans n2)) (by rw [hJ2, rw1_s, upd_s]) (by rw [hJ2, rw1_s, upd_n _ _ (by decide)]; exact j10) (by rw [← hc]; exact eL) (by rw [← hc]; exact eD) rfl
        rw [← hc] at f1
        refine ⟨I1, L, go (fun z => by rw [eD] at z; cases z) (fun _ z => by rw [eL] at z; cases z) (fun _ _ I13 h13 s0 hs => by rw [h13, ← hJ2, hs]; exact f1), (n1.trans n2).trans f2, _, p, _, _, rfl, f3, f5, Or.inr ⟨f6, k, _, rfl, by omega, f8, f4⟩⟩
end MNX
