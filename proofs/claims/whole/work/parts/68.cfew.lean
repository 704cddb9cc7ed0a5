/-! the class's fewest(), tells(): the search is made once -/
/-- a new int array of n places, kept in the field k of o -/
def arS (M : Mem) (o k n : Nat) : Mem := sR (nw M 13 n) o (va_up (mR (nw M 13 n) o) k (some (mx M)))
/-- a new row of numbers of n places, kept in the field k of o -/
def inS (M : Mem) (o k n : Nat) : Mem := sR (arS (nw M 2 2) (mx M) 0 n) o (va_up (mR (arS (nw M 2 2) (mx M) 0 n) o) k (some (mx M)))
def seS (M : Mem) (o a1 : Nat) : Mem := sR (arS (arS (arS (arS (inS M o 1 3) o 2 3001) o 3 3001) o 4 3001) o 5 8192) o (va_up (mR (arS (arS (arS (arS (inS M o 1 3) o 2 3001) o 3 3001) o 4 3001) o 5 8192) o) 0 (some a1))
def sfZ (M : Mem) : Mem := sR (seS (nw M 7 8) (mx M) 66) 0 (va_up (mR (seS (nw M 7 8) (mx M) 66) 0) 12 (some (mx M)))
theorem sp_inS {g : GE} {M : Mem} {o n : Nat} (k : KM M.1 o 2) (h0 : 0 < n) (hn : n ≤ 60000) : Cl g 2 mu_X2_init [rf g o, .int (nI n)] M none (arS M o 0 n) := by
  have e : (if 0 < nI n then nI n else 0) = nI n := if_pos (by rw [← nI_0]; exact nI_lt h0 (by omega))
  refine cp_X2_init k ?_
  rw [e, nI_clamp (by omega)]
  refine ⟨nI_pos (by omega), hn, fun M2 h2 M5 h5 => ⟨rfl, ?_⟩⟩
  rw [h5, h2]; rfl
theorem sp_seS {g : GE} {M : Mem} {o a1 : Nat} (k : KM M.1 o 7) (k1 : KM M.1 a1 3) : Cl g 3 mu_X7_init [rf g o, rf g a1] M none (seS M o a1) := by
  refine cp_X7_init k k1 (fun M1 h1 => ⟨arS (nw M 2 2) (mx M) 0 3, ?_, fun M10 h10 M15 h15 M20 h20 M26 h26 M32 h32 M39 h39 M46 h46 M54 h54 M62 h62 M70 h70 => ⟨rfl, ?_⟩⟩)
  · rw [h1]
    exact sp_inS (n := 3) ⟨Nat.lt_succ_self _, rw1_s _ _ _⟩ (by decide) (by decide)
  · subst h10 h15 h20 h26 h32 h39 h46 h54 h62 h70
    rfl
/-- the scripts' orders lie among the cells -/
def SIz (Z : Zs) : Prop := ∀ sc ar, KM Z sc 6 → Z.2.1 sc 0 = some ar → ar < Z.2.2.2.1
def SXz (Z : Zs) (I : Nat → Nat → Int32) : Prop := ∀ sa, Z.2.1 0 12 = some sa → SE Z sa ∧ XF Z sa ∧ ∃ m, m ≤ 3 ∧ I (sa + 1) 1 = nI m
/-- cells and slots, with those that are still to be made once -/
def pxZ (Z : Zs) : Nat := Z.2.2.2.1 + (if Z.2.1 0 12 = none then 7 else 0) + (if Z.2.1 0 13 = none then 7 else 0)
def psZ (Z : Zs) : Nat := Z.2.2.2.2 + (if Z.2.1 0 12 = none then 17208 else 0) + (if Z.2.1 0 13 = none then 41013 else 0)
/-- the cells grow, the rows of scripts stay -/
def GSz (Z Z1 : Zs) : Prop := ZG Z Z1 ∧ Z1.2.1 39 = Z.2.1 39 ∧ Z1.2.1 63 = Z.2.1 63 ∧ pxZ Z1 ≤ pxZ Z ∧ psZ Z1 ≤ psZ Z ∧ ∀ a, a < Z1.2.2.2.1 → Z1.1 a = 6 → a < Z.2.2.2.1
theorem GSz.refl (Z : Zs) : GSz Z Z := ⟨ZG.refl Z, rfl, rfl, Nat.le_refl _, Nat.le_refl _, fun _ h _ => h⟩
theorem GSz.xf {Z Z1 : Zs} {sa : Nat} (z : GSz Z Z1) (h99 : 99 ≤ Z.2.2.2.1) (h6 : ∀ a, a < 99 → Z.1 a ≠ 6) (hX : XF Z sa) : XF Z1 sa := fun sc ar hk hr => by
  have h1 := z.2.2.2.2.2 sc hk.1 hk.2
  have h2 : Z.1 sc = 6 := by rw [← (z.1.2.1 sc h1).1]; exact hk.2
  have h3 : 99 ≤ sc := Classical.byContradiction (fun e => h6 sc (by omega) h2)
  rw [z.1.2.2 sc 0 h1 (by omega) (by omega) (by omega)] at hr
  exact hX sc ar ⟨h1, h2⟩ hr
theorem GSz.si {Z Z1 : Zs} (z : GSz Z Z1) (h99 : 99 ≤ Z.2.2.2.1) (h6 : ∀ a, a < 99 → Z.1 a ≠ 6) (hX : SIz Z) : SIz Z1 := fun sc ar hk hr => by
  have h1 := z.2.2.2.2.2 sc hk.1 hk.2
  have h2 : Z.1 sc = 6 := by rw [← (z.1.2.1 sc h1).1]; exact hk.2
  have h3 : 99 ≤ sc := Classical.byContradiction (fun e => h6 sc (by omega) h2)
  rw [z.1.2.2 sc 0 h1 (by omega) (by omega) (by omega)] at hr
  exact Nat.lt_of_lt_of_le (hX sc ar ⟨h1, h2⟩ hr) z.1.1
theorem Sh.no6 {Z : Zs} (hS : Sh Z) : ∀ a, a < 99 → Z.1 a ≠ 6 := fun a ha e => by
  have hq : ∀ a, a < 99 → ∃ q ∈ shT, q.1 = a ∧ q.2 ≠ 6 := by decide
  obtain ⟨q, q1, q2, q3⟩ := hq a ha
  rw [← q2, hS.2.1 q q1] at e
  exact q3 e
section MAKE
variable {Z : Zs} {I : Nat → Nat → Int32} {L : Nat → Nat → Int64}
theorem sf_x : (sfZ (Z, I, L)).1.2.2.2.1 = Z.2.2.2.1 + 7 ∧ (sfZ (Z, I, L)).1.2.2.2.2 = Z.2.2.2.2 + 17208 := ⟨rfl, by
  show Z.2.2.2.2 + 8 + 2 + 3 + 3001 + 3001 + 3001 + 8192 = _
  omega⟩
theorem sf_old (hx : 99 ≤ Z.2.2.2.1) {a : Nat} (ha : a < Z.2.2.2.1) : (sfZ (Z, I, L)).1.1 a = Z.1 a ∧ (sfZ (Z, I, L)).1.2.2.1 a = Z.2.2.1 a ∧ (∀ k, ¬ (a = 0 ∧ k = 12) → (sfZ (Z, I, L)).1.2.1 a k = Z.2.1 a k) ∧ (sfZ (Z, I, L)).2.1 a = I a := by
  obtain ⟨T, R, N, x, s⟩ := Z
  have hx : 99 ≤ x := hx
  have ha : a < x := ha
  have e0 : a ≠ x := by omega
  have e1 : a ≠ x + 1 := by omega
  have e2 : a ≠ x + 1 + 1 := by omega
  have e3 : a ≠ x + 1 + 1 + 1 := by omega
  have e4 : a ≠ x + 1 + 1 + 1 + 1 := by omega
  have e5 : a ≠ x + 1 + 1 + 1 + 1 + 1 := by omega
  have e6 : a ≠ x + 1 + 1 + 1 + 1 + 1 + 1 := by omega
  refine ⟨?_, ?_, fun k hk => ?_, ?_⟩
  · simp only [sfZ, seS, arS, inS, rw1, e0, e1, e2, e3, e4, e5, e6, if_false]
  · simp only [sfZ, seS, arS, inS, rw1, e0, e1, e2, e3, e4, e5, e6, if_false]
  · by_cases h0 : a = 0
    · subst h0
      have hk : k ≠ 12 := fun e => hk ⟨rfl, e⟩
      simp only [sfZ, seS, arS, inS, rw1, va_up, hk, e0, e1, e2, e3, e4, e5, e6, if_false, if_true]
    · simp only [sfZ, seS, arS, inS, rw1, va_up, h0, e0, e1, e2, e3, e4, e5, e6, if_false]
  · simp only [sfZ, seS, arS, inS, rw1, e0, e1, e2, e3, e4, e5, e6, if_false]
theorem sf_12 : (sfZ (Z, I, L)).1.2.1 0 12 = some Z.2.2.2.1 := by
  show rw1 _ 0 (va_up _ 12 _) 0 12 = _
  rw [rw1_s]; rfl
theorem sf_new (hx : 99 ≤ Z.2.2.2.1) : SE (sfZ (Z, I, L)).1 Z.2.2.2.1 ∧ (sfZ (Z, I, L)).2.1 (Z.2.2.2.1 + 1) 1 = 0 := by
  obtain ⟨T, R, N, x, s⟩ := Z
  have hx : 99 ≤ x := hx
  have x0 : x ≠ 0 := by omega
  show SE (sfZ ((T, R, N, x, s), I, L)).1 x ∧ (sfZ ((T, R, N, x, s), I, L)).2.1 (x + 1) 1 = 0
  unfold SE KM
  simp [sfZ, seS, arS, inS, rw1, va_up, x0]
  omega
theorem sf_gs (hS : Sh Z) (h12 : Z.2.1 0 12 = none) : GSz Z (sfZ (Z, I, L)).1 := by
  have hx := hS.1
  obtain ⟨x1, x2⟩ := sf_x (Z := Z) (I := I) (L := L)
  have old := fun a (ha : a < Z.2.2.2.1) => sf_old (I := I) (L := L) hx ha
  refine ⟨⟨by omega, fun a ha => ⟨(old a ha).1, (old a ha).2.1⟩, fun a k ha _ _ h3 => (old a ha).2.2.1 k (fun e => h3 ⟨e.1, by omega⟩)⟩, ?_, ?_, ?_, ?_, fun a ha h6 => Classical.byContradiction (fun e => ?_)⟩
  · funext k; exact (old 39 (by omega)).2.2.1 k (by omega)
  · funext k; exact (old 63 (by omega)).2.2.1 k (by omega)
  · unfold pxZ
    rw [x1, sf_12, (old 0 (by omega)).2.2.1 13 (by omega), h12, if_pos rfl, if_neg (by intro z; cases z)]
    omega
  · unfold psZ
    rw [x2, sf_12, (old 0 (by omega)).2.2.1 13 (by omega), h12, if_pos rfl, if_neg (by intro z; cases z)]
    omega
  · rw [x1] at ha
    obtain ⟨n1, n2⟩ := sf_new (I := I) (L := L) hx
    exact n1.no6 ⟨by rw [x1]; omega, h6⟩ ⟨by omega, by omega⟩
end MAKE
section CFEW
variable {g : GE} {Z : Zs} {I : Nat → Nat → Int32} {L : Nat → Nat → Int64} {w h : Nat} {S K : Nat → List Nat} {tx tk : List TX}
theorem sp_searcher (c : CL Z I w h S tx) (hi : SIz Z) (hx : SXz Z I) : ∃ sa Z1 I1 L1, Cl g 4 mu_X11_searcher [rf g 0] (Z, I, L) (some (rf g sa)) (Z1, I1, L1) ∧ GSz Z Z1 ∧ SE Z1 sa ∧ XF Z1 sa ∧ Z1.2.1 0 12 = some sa ∧ Z1.2.1 0 13 = Z.2.1 0 13 ∧ (∃ m, m ≤ 3 ∧ I1 (sa + 1) 1 = nI m) ∧ ∀ a, a < Z.2.2.2.1 → I1 a = I a := by
  have hS := c.1.1
  have k0 := hS.k 0 11 (by decide) (by decide)
  cases h12 : Z.2.1 0 12 with
  | some sa =>
    obtain ⟨s1, s2, s3⟩ := hx sa h12
    refine ⟨sa, Z, I, L, cp_X11_searcher (M := (Z, I, L)) k0 ⟨fun e => ?_, fun b hb => ?_⟩, GSz.refl Z, s1, s2, h12, rfl, s3, fun _ _ => rfl⟩
    · have e : Z.2.1 0 12 = none := e
      rw [h12] at e; cases e
    · have hb : Z.2.1 0 12 = some b := hb
      rw [h12] at hb; cases hb
      refine ⟨s1.2.1, fun e => ?_, fun b2 hb2 => ?_⟩
      · have e : Z.2.1 0 12 = none := e
        rw [h12] at e; cases e
      · have hb2 : Z.2.1 0 12 = some b2 := hb2
        rw [h12] at hb2; cases hb2
        exact ⟨s1.2.1, rfl, rfl⟩
  | none =>
    have hxx := hS.1
    have gs := sf_gs (I := I) (L := L) hS h12
    obtain ⟨n1, n2⟩ := sf_new (I := I) (L := L) hxx
    have k66 : KM (nw (Z, I, L) 7 8).1 66 3 := (hS.k 66 3 (by decide) (by decide)).ext (M := (Z, I, L)) (Ext.nw _ _ _)
    have kn : KM (nw (Z, I, L) 7 8).1 Z.2.2.2.1 7 := ⟨Nat.lt_succ_self _, rw1_s _ _ _⟩
    refine ⟨Z.2.2.2.1, (sfZ (Z, I, L)).1, (sfZ (Z, I, L)).2.1, (sfZ (Z, I, L)).2.2, cp_X11_searcher (M := (Z, I, L)) k0 ⟨fun _ M2 h2 => ?_, fun b hb => ?_⟩, gs, n1, ?_, sf_12, (sf_old hxx (by omega)).2.2.1 13 (by omega), ⟨0, by decide, n2⟩, fun a ha => (sf_old hxx ha).2.2.2⟩
    · subst h2
      refine ⟨66, ?_, k66, seS (nw (Z, I, L) 7 8) Z.2.2.2.1 66, sp_seS kn k66, fun M11 h11 => ?_⟩
      · show rw1 Z.2.1 Z.2.2.2.1 _ 0 5 = _
        rw [rw1_n _ _ (by omega)]; exact hS.r 0 5 66 (by decide)
      · have e11 : M11 = sfZ (Z, I, L) := h11
        subst e11
        have e12 : mR (sfZ (Z, I, L)) 0 12 = some Z.2.2.2.1 := sf_12
        refine ⟨fun e => ?_, fun b hb => ?_⟩
        · rw [e12] at e; cases e
        · rw [e12] at hb; cases hb
          exact ⟨n1.2.1, rfl, rfl⟩
    · have hb : Z.2.1 0 12 = some b := hb
      rw [h12] at hb; cases hb
    · intro sc ar hk hr hc
      have h1 := gs.2.2.2.2.2 sc hk.1 hk.2
      have h2 : Z.1 sc = 6 := by rw [← (gs.1.2.1 sc h1).1]; exact hk.2
      have h3 : 99 ≤ sc := Classical.byContradiction (fun e => hS.no6 sc (by omega) h2)
      rw [gs.1.2.2 sc 0 h1 (by omega) (by omega) (by omega)] at hr
      have := hi sc ar ⟨h1, h2⟩ hr
      omega
end CFEW
