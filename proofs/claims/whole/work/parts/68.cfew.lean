/-! the class's fewest(), tells(): the search is made once -/
def cT (M : Mem) (a : Nat) : Nat := M.1.1 a
def cN (M : Mem) (a : Nat) : Nat := M.1.2.2.1 a
def cR (M : Mem) (a k : Nat) : Option Nat := M.1.2.1 a k
def cI (M : Mem) (a : Nat) : Nat → Int32 := M.2.1 a
def cx (M : Mem) : Nat := M.1.2.2.2.1
def cs (M : Mem) : Nat := M.1.2.2.2.2
def nwD (M : Mem) (t n : Nat) : Mem := nw M t n
def pR (M : Mem) (o k v : Nat) : Mem := sR M o (va_up (mR M o) k (some v))
theorem cT_nw (M : Mem) (t n a : Nat) : cT (nwD M t n) a = if a = cx M then t else cT M a := rfl
theorem cT_pR (M : Mem) (o k v a : Nat) : cT (pR M o k v) a = cT M a := rfl
theorem cN_nw (M : Mem) (t n a : Nat) : cN (nwD M t n) a = if a = cx M then n else cN M a := rfl
theorem cN_pR (M : Mem) (o k v a : Nat) : cN (pR M o k v) a = cN M a := rfl
theorem cI_nw (M : Mem) (t n a : Nat) : cI (nwD M t n) a = if a = cx M then (fun _ => 0) else cI M a := rfl
theorem cI_pR (M : Mem) (o k v a : Nat) : cI (pR M o k v) a = cI M a := rfl
theorem cx_nw (M : Mem) (t n : Nat) : cx (nwD M t n) = cx M + 1 := rfl
theorem cx_pR (M : Mem) (o k v : Nat) : cx (pR M o k v) = cx M := rfl
theorem cR_nw (M : Mem) (t n a k : Nat) : cR (nwD M t n) a k = if a = cx M then none else cR M a k := by
  show (if a = cx M then (fun _ => none) else mR M a) k = _
  by_cases h : a = cx M
  · rw [if_pos h, if_pos h]
  · rw [if_neg h, if_neg h]; rfl
theorem cR_pR (M : Mem) (o k v a j : Nat) : cR (pR M o k v) a j = if a = o ∧ j = k then some v else cR M a j := by
  show (if a = o then va_up (mR M o) k (some v) else mR M a) j = _
  by_cases h : a = o
  · rw [if_pos h]
    unfold va_up
    by_cases h2 : j = k
    · rw [if_pos h2, if_pos ⟨h, h2⟩]
    · rw [if_neg h2, if_neg (fun z => h2 z.2), h]; rfl
  · rw [if_neg h, if_neg (fun z => h z.1)]; rfl
/-- a new int array of n places, kept in the field k of o -/
def arS (M : Mem) (o k n : Nat) : Mem := pR (nwD M 13 n) o k (cx M)
/-- a new row of numbers of n places, kept in the field k of o -/
def inS (M : Mem) (o k n : Nat) : Mem := pR (arS (nwD M 2 2) (cx M) 0 n) o k (cx M)
def seS (M : Mem) (o a1 : Nat) : Mem := pR (arS (arS (arS (arS (inS M o 1 3) o 2 3001) o 3 3001) o 4 3001) o 5 8192) o 0 a1
def sfZ (M : Mem) : Mem := pR (seS (nwD M 7 8) (cx M) 66) 0 12 (cx M)
theorem sp_inS {g : GE} {M : Mem} {o n : Nat} (k : KM M.1 o 2) (h0 : 0 < n) (hn : n ≤ 60000) : Cl g 2 mu_X2_init [rf g o, .int (nI n)] M none (arS M o 0 n) := by
  have e : (if 0 < nI n then nI n else 0) = nI n := if_pos (by rw [← nI_0]; exact nI_lt h0 (by omega))
  refine cp_X2_init k ?_
  rw [e, nI_clamp (by omega)]
  refine ⟨nI_pos (by omega), hn, fun M2 h2 M5 h5 => ⟨rfl, ?_⟩⟩
  rw [h5, h2]; rfl
theorem sp_seS {g : GE} {M : Mem} {o a1 : Nat} (k : KM M.1 o 7) (k1 : KM M.1 a1 3) : Cl g 3 mu_X7_init [rf g o, rf g a1] M none (seS M o a1) := by
  refine cp_X7_init k k1 (fun M1 h1 => ⟨arS (nwD M 2 2) (cx M) 0 3, ?_, fun M10 h10 M15 h15 M20 h20 M26 h26 M32 h32 M39 h39 M46 h46 M54 h54 M62 h62 M70 h70 => ⟨rfl, ?_⟩⟩)
  · rw [h1]
    exact sp_inS (n := 3) ⟨Nat.lt_succ_self _, rw1_s _ _ _⟩ (by decide) (by decide)
  · subst h10 h15 h20 h26 h32 h39 h46 h54 h62 h70
    rfl
/-- the scripts' orders lie among the cells -/
def SIz (Z : Zs) : Prop := ∀ sc ar, KM Z sc 6 → Z.2.1 sc 0 = some ar → ar < Z.2.2.2.1
def SXz (Z : Zs) (I : Nat → Nat → Int32) : Prop := ∀ sa, Z.2.1 0 12 = some sa → SE Z sa ∧ XF Z sa ∧ ∃ m, m ≤ 3 ∧ I (sa + 1) 1 = nI m
/-- cells and slots, with those that are still to be made once -/
def pxZ (Z : Zs) : Nat := Z.2.2.2.1 + (if Z.2.1 0 12 = none then 7 else 0) + (if Z.2.1 0 13 = none then 7 else 0)
def psZ (Z : Zs) : Nat := Z.2.2.2.2 + (if Z.2.1 0 12 = none then 17208 else 0) + (if Z.2.1 0 13 = none then 41013 else 0)
/-- the cells grow, the rows of scripts stay -/
def GSz (Z Z1 : Zs) : Prop := ZG Z Z1 ∧ Z1.2.1 39 = Z.2.1 39 ∧ Z1.2.1 63 = Z.2.1 63 ∧ pxZ Z1 ≤ pxZ Z ∧ psZ Z1 ≤ psZ Z ∧ ∀ a, a < Z1.2.2.2.1 → Z1.1 a = 6 → a < Z.2.2.2.1
theorem GSz.refl (Z : Zs) : GSz Z Z := ⟨ZG.refl Z, rfl, rfl, Nat.le_refl _, Nat.le_refl _, fun _ h _ => h⟩
theorem GSz.xf {Z Z1 : Zs} {sa : Nat} (z : GSz Z Z1) (h99 : 99 ≤ Z.2.2.2.1) (h6 : ∀ a, a < 99 → Z.1 a ≠ 6) (hX : XF Z sa) : XF Z1 sa := fun sc ar hk hr => by
  have h1 := z.2.2.2.2.2 sc hk.1 hk.2
  have h2 : Z.1 sc = 6 := by rw [← (z.1.2.1 sc h1).1]; exact hk.2
  have h3 : 99 ≤ sc := Classical.byContradiction (fun e => h6 sc (by omega) h2)
  rw [z.1.2.2 sc 0 h1 (by omega) (by omega) (by omega)] at hr
  exact hX sc ar ⟨h1, h2⟩ hr
theorem GSz.si {Z Z1 : Zs} (z : GSz Z Z1) (h99 : 99 ≤ Z.2.2.2.1) (h6 : ∀ a, a < 99 → Z.1 a ≠ 6) (hX : SIz Z) : SIz Z1 := fun sc ar hk hr => by
  have h1 := z.2.2.2.2.2 sc hk.1 hk.2
  have h2 : Z.1 sc = 6 := by rw [← (z.1.2.1 sc h1).1]; exact hk.2
  have h3 : 99 ≤ sc := Classical.byContradiction (fun e => h6 sc (by omega) h2)
  rw [z.1.2.2 sc 0 h1 (by omega) (by omega) (by omega)] at hr
  exact Nat.lt_of_lt_of_le (hX sc ar ⟨h1, h2⟩ hr) z.1.1
theorem Sh.no6 {Z : Zs} (hS : Sh Z) : ∀ a, a < 99 → Z.1 a ≠ 6 := fun a ha e => by
  have hq : ∀ a, a < 99 → ∃ q ∈ shT, q.1 = a ∧ q.2 ≠ 6 := by decide
  obtain ⟨q, q1, q2, q3⟩ := hq a ha
  rw [← q2, hS.2.1 q q1] at e
  exact q3 e
section MAKE
variable {Z : Zs} {I : Nat → Nat → Int32} {L : Nat → Nat → Int64}
theorem sf_x : (sfZ (Z, I, L)).1.2.2.2.1 = Z.2.2.2.1 + 7 ∧ (sfZ (Z, I, L)).1.2.2.2.2 = Z.2.2.2.2 + 17208 := ⟨rfl, by
  show Z.2.2.2.2 + 8 + 2 + 3 + 3001 + 3001 + 3001 + 8192 = _
  omega⟩
theorem sf_old (hx : 99 ≤ Z.2.2.2.1) {a : Nat} (ha : a < Z.2.2.2.1) : (sfZ (Z, I, L)).1.1 a = Z.1 a ∧ (sfZ (Z, I, L)).1.2.2.1 a = Z.2.2.1 a ∧ (∀ k, ¬ (a = 0 ∧ k = 12) → (sfZ (Z, I, L)).1.2.1 a k = Z.2.1 a k) ∧ (sfZ (Z, I, L)).2.1 a = I a := by
  have hx : 99 ≤ cx (Z, I, L) := hx
  have ha : a < cx (Z, I, L) := ha
  have e0 : a ≠ cx (Z, I, L) := by omega
  have e1 : a ≠ cx (Z, I, L) + 1 := by omega
  have e2 : a ≠ cx (Z, I, L) + 1 + 1 := by omega
  have e3 : a ≠ cx (Z, I, L) + 1 + 1 + 1 := by omega
  have e4 : a ≠ cx (Z, I, L) + 1 + 1 + 1 + 1 := by omega
  have e5 : a ≠ cx (Z, I, L) + 1 + 1 + 1 + 1 + 1 := by omega
  have e6 : a ≠ cx (Z, I, L) + 1 + 1 + 1 + 1 + 1 + 1 := by omega
  refine ⟨?_, ?_, fun k hk => ?_, ?_⟩
  · show cT (sfZ (Z, I, L)) a = cT (Z, I, L) a
    simp only [sfZ, seS, arS, inS, cT_nw, cT_pR, cx_nw, cx_pR, e0, e1, e2, e3, e4, e5, e6, if_false]
  · show cN (sfZ (Z, I, L)) a = cN (Z, I, L) a
    simp only [sfZ, seS, arS, inS, cN_nw, cN_pR, cx_nw, cx_pR, e0, e1, e2, e3, e4, e5, e6, if_false]
  · show cR (sfZ (Z, I, L)) a k = cR (Z, I, L) a k
    simp only [sfZ, seS, arS, inS, cR_nw, cR_pR, cx_nw, cx_pR, e0, e1, e2, e3, e4, e5, e6, if_false, false_and, hk]
  · show cI (sfZ (Z, I, L)) a = cI (Z, I, L) a
    simp only [sfZ, seS, arS, inS, cI_nw, cI_pR, cx_nw, cx_pR, e0, e1, e2, e3, e4, e5, e6, if_false]
theorem sf_12 : (sfZ (Z, I, L)).1.2.1 0 12 = some Z.2.2.2.1 := by
  show cR (pR _ 0 12 _) 0 12 = _
  rw [cR_pR, if_pos ⟨rfl, rfl⟩]; rfl
theorem sf_T (j : Nat) (hj : j < 7) : cT (sfZ (Z, I, L)) (cx (Z, I, L) + j) = [7, 2, 13, 13, 13, 13, 13].getD j 0 := by
  have cs : j = 0 ∨ j = 1 ∨ j = 2 ∨ j = 3 ∨ j = 4 ∨ j = 5 ∨ j = 6 := by omega
  simp only [sfZ, seS, arS, inS, cT_nw, cT_pR, cx_nw, cx_pR]
  rcases cs with rfl | rfl | rfl | rfl | rfl | rfl | rfl <;> simp [Nat.add_assoc]
theorem sf_N (j : Nat) (hj : j < 7) : cN (sfZ (Z, I, L)) (cx (Z, I, L) + j) = [8, 2, 3, 3001, 3001, 3001, 8192].getD j 0 := by
  have cs : j = 0 ∨ j = 1 ∨ j = 2 ∨ j = 3 ∨ j = 4 ∨ j = 5 ∨ j = 6 := by omega
  simp only [sfZ, seS, arS, inS, cN_nw, cN_pR, cx_nw, cx_pR]
  rcases cs with rfl | rfl | rfl | rfl | rfl | rfl | rfl <;> simp [Nat.add_assoc]
theorem sf_R (hx : 99 ≤ Z.2.2.2.1) (j : Nat) (hj : j < 6) : cR (sfZ (Z, I, L)) (cx (Z, I, L)) j = some ([66, cx (Z, I, L) + 1, cx (Z, I, L) + 3, cx (Z, I, L) + 4, cx (Z, I, L) + 5, cx (Z, I, L) + 6].getD j 0) := by
  have hx : 99 ≤ cx (Z, I, L) := hx
  have cs : j = 0 ∨ j = 1 ∨ j = 2 ∨ j = 3 ∨ j = 4 ∨ j = 5 := by omega
  simp only [sfZ, seS, arS, inS, cR_nw, cR_pR, cx_nw, cx_pR]
  have x0 : cx (Z, I, L) ≠ 0 := by omega
  rcases cs with rfl | rfl | rfl | rfl | rfl | rfl <;> simp [x0, Nat.add_assoc]
theorem sf_R1 (hx : 99 ≤ Z.2.2.2.1) : cR (sfZ (Z, I, L)) (cx (Z, I, L) + 1) 0 = some (cx (Z, I, L) + 2) := by
  have hx : 99 ≤ cx (Z, I, L) := hx
  simp only [sfZ, seS, arS, inS, cR_nw, cR_pR, cx_nw, cx_pR]
  simp [show cx (Z, I, L) ≠ 0 by omega]
theorem sf_I1 : cI (sfZ (Z, I, L)) (cx (Z, I, L) + 1) 1 = 0 := by
  simp only [sfZ, seS, arS, inS, cI_nw, cI_pR, cx_nw, cx_pR]
  simp
theorem sf_new (hx : 99 ≤ Z.2.2.2.1) : SE (sfZ (Z, I, L)).1 Z.2.2.2.1 ∧ (sfZ (Z, I, L)).2.1 (Z.2.2.2.1 + 1) 1 = 0 := by
  have km : ∀ j, j < 7 → KM (sfZ (Z, I, L)).1 (Z.2.2.2.1 + j) ([7, 2, 13, 13, 13, 13, 13].getD j 0) := fun j hj => ⟨by rw [sf_x.1]; omega, sf_T j hj⟩
  exact ⟨⟨hx, km 0 (by decide), sf_R hx 0 (by decide), ⟨sf_R hx 1 (by decide), km 1 (by decide), sf_R1 hx, km 2 (by decide), sf_N 2 (by decide)⟩, ⟨sf_R hx 2 (by decide), km 3 (by decide), sf_N 3 (by decide)⟩, ⟨sf_R hx 3 (by decide), km 4 (by decide), sf_N 4 (by decide)⟩, ⟨sf_R hx 4 (by decide), km 5 (by decide), sf_N 5 (by decide)⟩, ⟨sf_R hx 5 (by decide), km 6 (by decide), sf_N 6 (by decide)⟩⟩, sf_I1⟩
theorem sf_gs (hS : Sh Z) (h12 : Z.2.1 0 12 = none) : GSz Z (sfZ (Z, I, L)).1 := by
  have hx := hS.1
  obtain ⟨x1, x2⟩ := sf_x (Z := Z) (I := I) (L := L)
  have old := fun a (ha : a < Z.2.2.2.1) => sf_old (I := I) (L := L) hx ha
  refine ⟨⟨by omega, fun a ha => ⟨(old a ha).1, (old a ha).2.1⟩, fun a k ha _ _ h3 => (old a ha).2.2.1 k (fun e => h3 ⟨e.1, by omega⟩)⟩, ?_, ?_, ?_, ?_, fun a ha h6 => Classical.byContradiction (fun e => ?_)⟩
  · funext k; exact (old 39 (by omega)).2.2.1 k (by omega)
  · funext k; exact (old 63 (by omega)).2.2.1 k (by omega)
  · unfold pxZ
    rw [x1, sf_12, (old 0 (by omega)).2.2.1 13 (by omega), h12, if_pos rfl, if_neg (by intro z; cases z)]
    omega
  · unfold psZ
    rw [x2, sf_12, (old 0 (by omega)).2.2.1 13 (by omega), h12, if_pos rfl, if_neg (by intro z; cases z)]
    omega
  · rw [x1] at ha
    obtain ⟨n1, n2⟩ := sf_new (I := I) (L := L) hx
    exact n1.no6 ⟨by rw [x1]; omega, h6⟩ ⟨by omega, by omega⟩
end MAKE
section CFEW
variable {g : GE} {Z : Zs} {I : Nat → Nat → Int32} {L : Nat → Nat → Int64} {w h : Nat} {S K : Nat → List Nat} {tx tk : List TX}
theorem sp_searcher (c : CL Z I w h S tx) (hi : SIz Z) (hx : SXz Z I) : ∃ sa Z1 I1 L1, Cl g 4 mu_X11_searcher [rf g 0] (Z, I, L) (some (rf g sa)) (Z1, I1, L1) ∧ GSz Z Z1 ∧ SE Z1 sa ∧ XF Z1 sa ∧ Z1.2.1 0 12 = some sa ∧ Z1.2.1 0 13 = Z.2.1 0 13 ∧ (∃ m, m ≤ 3 ∧ I1 (sa + 1) 1 = nI m) ∧ ∀ a, a < Z.2.2.2.1 → I1 a = I a := by
  have hS := c.1.1
  have k0 := hS.k 0 11 (by decide) (by decide)
  cases h12 : Z.2.1 0 12 with
  | some sa =>
    obtain ⟨s1, s2, s3⟩ := hx sa h12
    refine ⟨sa, Z, I, L, cp_X11_searcher (M := (Z, I, L)) k0 ⟨fun e => ?_, fun b hb => ?_⟩, GSz.refl Z, s1, s2, h12, rfl, s3, fun _ _ => rfl⟩
    · have e : Z.2.1 0 12 = none := e
      rw [h12] at e; cases e
    · have hb : Z.2.1 0 12 = some b := hb
      rw [h12] at hb; cases hb
      refine ⟨s1.2.1, fun e => ?_, fun b2 hb2 => ?_⟩
      · have e : Z.2.1 0 12 = none := e
        rw [h12] at e; cases e
      · have hb2 : Z.2.1 0 12 = some b2 := hb2
        rw [h12] at hb2; cases hb2
        exact ⟨s1.2.1, rfl, rfl⟩
  | none =>
    have hxx := hS.1
    have gs := sf_gs (I := I) (L := L) hS h12
    obtain ⟨n1, n2⟩ := sf_new (I := I) (L := L) hxx
    have k66 : KM (nw (Z, I, L) 7 8).1 66 3 := (hS.k 66 3 (by decide) (by decide)).ext (M := (Z, I, L)) (Ext.nw _ _ _)
    have kn : KM (nw (Z, I, L) 7 8).1 Z.2.2.2.1 7 := ⟨Nat.lt_succ_self _, rw1_s _ _ _⟩
    refine ⟨Z.2.2.2.1, (sfZ (Z, I, L)).1, (sfZ (Z, I, L)).2.1, (sfZ (Z, I, L)).2.2, cp_X11_searcher (M := (Z, I, L)) k0 ⟨fun _ M2 h2 => ?_, fun b hb => ?_⟩, gs, n1, ?_, sf_12, (sf_old hxx (by omega)).2.2.1 13 (by omega), ⟨0, by decide, n2⟩, fun a ha => (sf_old hxx ha).2.2.2⟩
    · subst h2
      refine ⟨66, ?_, k66, seS (nw (Z, I, L) 7 8) Z.2.2.2.1 66, sp_seS kn k66, fun M11 h11 => ?_⟩
      · show rw1 Z.2.1 Z.2.2.2.1 _ 0 5 = _
        rw [rw1_n _ _ (by omega)]; exact hS.r 0 5 66 (by decide)
      · have e11 : M11 = sfZ (Z, I, L) := h11
        subst e11
        have e12 : mR (sfZ (Z, I, L)) 0 12 = some Z.2.2.2.1 := sf_12
        refine ⟨fun e => ?_, fun b hb => ?_⟩
        · rw [e12] at e; cases e
        · rw [e12] at hb; cases hb
          exact ⟨n1.2.1, rfl, rfl⟩
    · have hb : Z.2.1 0 12 = some b := hb
      rw [h12] at hb; cases hb
    · intro sc ar hk hr hc
      have h1 := gs.2.2.2.2.2 sc hk.1 hk.2
      have h2 : Z.1 sc = 6 := by rw [← (gs.1.2.1 sc h1).1]; exact hk.2
      have h3 : 99 ≤ sc := Classical.byContradiction (fun e => hS.no6 sc (by omega) h2)
      rw [gs.1.2.2 sc 0 h1 (by omega) (by omega) (by omega)] at hr
      have := hi sc ar ⟨h1, h2⟩ hr
      omega
end CFEW
