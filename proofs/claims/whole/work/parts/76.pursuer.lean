/-! the class's chase: its object, its links by counting -/
def PEz (Z : Zs) (pa N : Nat) : Prop := 99 ≤ pa ∧ KM Z pa 0 ∧ Z.2.1 pa 0 = some 18 ∧ Z.2.1 pa 1 = some 66 ∧ (Z.2.1 pa 4 = some (pa + 1) ∧ KM Z (pa + 1) 13 ∧ Z.2.2.1 (pa + 1) = 2 * (N * N)) ∧ (Z.2.1 pa 5 = some (pa + 2) ∧ KM Z (pa + 2) 13 ∧ Z.2.2.1 (pa + 2) = 2 * (N * N)) ∧ (Z.2.1 pa 7 = some (pa + 3) ∧ KM Z (pa + 3) 13 ∧ Z.2.2.1 (pa + 3) = N + 1) ∧ (Z.2.1 pa 8 = some (pa + 4) ∧ KM Z (pa + 4) 13 ∧ Z.2.2.1 (pa + 4) = 4 * N) ∧ (Z.2.1 pa 9 = some (pa + 5) ∧ KM Z (pa + 5) 13 ∧ Z.2.2.1 (pa + 5) = N + 1) ∧ (Z.2.1 pa 10 = some (pa + 6) ∧ KM Z (pa + 6) 13 ∧ Z.2.2.1 (pa + 6) = 4 * N)
def PXz (Z : Zs) (I : Nat → Nat → Int32) (w h : Nat) : Prop := ∀ pa, Z.2.1 0 13 = some pa → PEz Z pa (4 * (w * h)) ∧ XF Z pa ∧ I pa 2 = nI (4 * (w * h)) ∧ I pa 3 = nI (4 * (w * h) * (4 * (w * h)))
theorem PEz.no6 {Z : Zs} {pa N : Nat} (hE : PEz Z pa N) {sc : Nat} (k : KM Z sc 6) : ¬ (pa ≤ sc ∧ sc ≤ pa + 6) := fun ⟨h1, h2⟩ => by
  obtain ⟨e0, e1, e2, e3, ⟨a1, a2, a3⟩, ⟨b1, b2, b3⟩, ⟨c1, c2, c3⟩, ⟨d1, d2, d3⟩, ⟨f1, f2, f3⟩, ⟨g1, g2, g3⟩⟩ := hE
  have cs : sc = pa ∨ sc = pa + 1 ∨ sc = pa + 2 ∨ sc = pa + 3 ∨ sc = pa + 4 ∨ sc = pa + 5 ∨ sc = pa + 6 := by omega
  rcases cs with rfl | rfl | rfl | rfl | rfl | rfl | rfl
  · exact k.ne e1 (by decide) rfl
  · exact k.ne a2 (by decide) rfl
  · exact k.ne b2 (by decide) rfl
  · exact k.ne c2 (by decide) rfl
  · exact k.ne d2 (by decide) rfl
  · exact k.ne f2 (by decide) rfl
  · exact k.ne g2 (by decide) rfl
def pI (M : Mem) (o k : Nat) (v : Int32) : Mem := sI M o (upd (mI M o) k v)
theorem cT_pI (M : Mem) (o k : Nat) (v : Int32) (a : Nat) : cT (pI M o k v) a = cT M a := rfl
theorem cN_pI (M : Mem) (o k : Nat) (v : Int32) (a : Nat) : cN (pI M o k v) a = cN M a := rfl
theorem cR_pI (M : Mem) (o k : Nat) (v : Int32) (a j : Nat) : cR (pI M o k v) a j = cR M a j := rfl
theorem cx_pI (M : Mem) (o k : Nat) (v : Int32) : cx (pI M o k v) = cx M := rfl
theorem cI_pI (M : Mem) (o k : Nat) (v : Int32) (a : Nat) : cI (pI M o k v) a = if a = o then upd (cI M o) k v else cI M a := rfl
theorem cI_ar {M : Mem} {o a k n : Nat} (h : a ≠ cx M) : cI (arS M o k n) a = cI M a := by
  show (if a = cx M then (fun _ => 0) else cI M a) = _
  rw [if_neg h]
theorem cx_ar (M : Mem) (o k n : Nat) : cx (arS M o k n) = cx M + 1 := rfl
/-- the fields of a new chase -/
def phS (M : Mem) (o N : Nat) : Mem := pI (pI (pR (pR M o 0 18) o 1 66) o 2 (nI N)) o 3 (nI (N * N))
def peS (M : Mem) (o N : Nat) : Mem := arS (arS (arS (arS (arS (arS (phS M o N) o 4 (2 * (N * N))) o 5 (2 * (N * N))) o 7 (N + 1)) o 8 (4 * N)) o 9 (N + 1)) o 10 (4 * N)
def pfS (M : Mem) (N : Nat) : Mem := pR (peS (nwD M 0 11) (cx M) N) 0 13 (cx M)
theorem sp_peS {g : GE} {M : Mem} {o w h : Nat} (hwh : wh w h) (ho : o < cx M) (h18 : o ≠ 18) (k : KM M.1 o 0) (k1 : KM M.1 18 8) (k2 : KM M.1 66 3) (e0 : mI M 18 0 = nI w) (e1 : mI M 18 1 = nI h) : Cl g 2 mu_X0_init [rf g o, rf g 18, rf g 66] M none (peS M o (4 * (w * h))) := by
  have hm := hwh.mul
  obtain ⟨N, hN⟩ : ∃ N, N = 4 * (w * h) := ⟨_, rfl⟩
  have hN1 : N ≤ 100 := by omega
  have hNN : N * N ≤ 100 * 100 := Nat.mul_le_mul hN1 hN1
  rw [← hN]
  have pp : Cl g 1 mu_X8_posesInAll [rf g 18] (pR (pR M o 0 18) o 1 66) (some (.int (nI N))) (pR (pR M o 0 18) o 1 66) := by
    refine cp_X8_posesInAll (Z := (pR (pR M o 0 18) o 1 66).1) (I := (pR (pR M o 0 18) o 1 66).2.1) (L := (pR (pR M o 0 18) o 1 66).2.2) ⟨k1.1, k1.2⟩ ⟨?_, rfl⟩
    show some (Value.int (nI N)) = some (Value.int ((4 * mI M 18 0) * mI M 18 1))
    rw [e0, e1, show (4 : Int32) * nI w = nI (4 * w) from pk_mul 4 w, pk_mul, Nat.mul_assoc, hN]
  have q3 : (2 : Int32) * nI (N * N) = nI (2 * (N * N)) := pk_mul 2 _
  have q2 : (4 : Int32) * nI N = nI (4 * N) := pk_mul 4 _
  have q1 : nI N + 1 = nI (N + 1) := nI_1 N
  have i3 : cI (phS M o N) o 3 = nI (N * N) := by
    unfold phS
    rw [cI_pI, if_pos rfl]; rfl
  have i2 : cI (phS M o N) o 2 = nI N := by
    unfold phS
    rw [cI_pI, if_pos rfl]
    show upd (cI _ o) 3 _ 2 = _
    rw [upd_n _ _ (by decide), cI_pI, if_pos rfl]; rfl
  have x0 : cx (phS M o N) = cx M := rfl
  refine cp_X0_init k k1 k2 (fun M1 h1 M5 h5 => ?_)
  have h5 : M5 = pR (pR M o 0 18) o 1 66 := by rw [h5, h1]; rfl
  subst h5
  refine ⟨nI N, pR (pR M o 0 18) o 1 66, pp, fun M15 h15 M19 h19 => ?_⟩
  have h19 : M19 = phS M o N := by
    rw [h19, h15]
    show pI (pI (pR (pR M o 0 18) o 1 66) o 2 (nI N)) o 3 (cI (pI (pR (pR M o 0 18) o 1 66) o 2 (nI N)) o 2 * cI (pI (pR (pR M o 0 18) o 1 66) o 2 (nI N)) o 2) = _
    have : cI (pI (pR (pR M o 0 18) o 1 66) o 2 (nI N)) o 2 = nI N := by rw [cI_pI, if_pos rfl]; rfl
    rw [this, pk_mul]; rfl
  subst h19
  have l3 : mI (phS M o N) o 3 = nI (N * N) := i3
  rw [l3, q3, nI_clamp (by omega)]
  refine ⟨nI_pos (by omega), by omega, fun M24 h24 M29 h29 => ?_⟩
  have h29 : M29 = arS (phS M o N) o 4 (2 * (N * N)) := by rw [h29, h24]; rfl
  subst h29
  have l4 : mI (arS (phS M o N) o 4 (2 * (N * N))) o 3 = nI (N * N) := by
    show cI _ o 3 = _
    rw [cI_ar (by rw [x0]; omega)]; exact i3
  rw [l4, q3, nI_clamp (by omega)]
  refine ⟨nI_pos (by omega), by omega, fun M35 h35 M41 h41 => ?_⟩
  have h41 : M41 = arS (arS (phS M o N) o 4 (2 * (N * N))) o 5 (2 * (N * N)) := by rw [h41, h35]; rfl
  subst h41
  have l5 : mI (arS (arS (phS M o N) o 4 (2 * (N * N))) o 5 (2 * (N * N))) o 2 = nI N := by
    show cI _ o 2 = _
    rw [cI_ar (by rw [cx_ar, x0]; omega), cI_ar (by rw [x0]; omega)]; exact i2
  rw [l5, q1, nI_clamp (by omega)]
  refine ⟨nI_pos (by omega), by omega, fun M48 h48 M55 h55 => ?_⟩
  have h55 : M55 = arS (arS (arS (phS M o N) o 4 (2 * (N * N))) o 5 (2 * (N * N))) o 7 (N + 1) := by rw [h55, h48]; rfl
  subst h55
  have l6 : mI (arS (arS (arS (phS M o N) o 4 (2 * (N * N))) o 5 (2 * (N * N))) o 7 (N + 1)) o 2 = nI N := by
    show cI _ o 2 = _
    rw [cI_ar (by rw [cx_ar, cx_ar, x0]; omega)]; exact l5
  rw [l6, q2, nI_clamp (by omega)]
  refine ⟨nI_pos (by omega), by omega, fun M63 h63 M71 h71 => ?_⟩
  have h71 : M71 = arS (arS (arS (arS (phS M o N) o 4 (2 * (N * N))) o 5 (2 * (N * N))) o 7 (N + 1)) o 8 (4 * N) := by rw [h71, h63]; rfl
  subst h71
  have l7 : mI (arS (arS (arS (arS (phS M o N) o 4 (2 * (N * N))) o 5 (2 * (N * N))) o 7 (N + 1)) o 8 (4 * N)) o 2 = nI N := by
    show cI _ o 2 = _
    rw [cI_ar (by rw [cx_ar, cx_ar, cx_ar, x0]; omega)]; exact l6
  rw [l7, q1, nI_clamp (by omega)]
  refine ⟨nI_pos (by omega), by omega, fun M80 h80 M89 h89 => ?_⟩
  have h89 : M89 = arS (arS (arS (arS (arS (phS M o N) o 4 (2 * (N * N))) o 5 (2 * (N * N))) o 7 (N + 1)) o 8 (4 * N)) o 9 (N + 1) := by rw [h89, h80]; rfl
  subst h89
  have l8 : mI (arS (arS (arS (arS (arS (phS M o N) o 4 (2 * (N * N))) o 5 (2 * (N * N))) o 7 (N + 1)) o 8 (4 * N)) o 9 (N + 1)) o 2 = nI N := by
    show cI _ o 2 = _
    rw [cI_ar (by rw [cx_ar, cx_ar, cx_ar, cx_ar, x0]; omega)]; exact l7
  rw [l8, q2, nI_clamp (by omega)]
  refine ⟨nI_pos (by omega), by omega, fun M99 h99 M109 h109 => ⟨rfl, ?_⟩⟩
  rw [h109, h99]; rfl
section PMAKE
variable {Z : Zs} {I : Nat → Nat → Int32} {L : Nat → Nat → Int64} {N : Nat}
theorem pf_x : (pfS (Z, I, L) N).1.2.2.2.1 = Z.2.2.2.1 + 7 ∧ (pfS (Z, I, L) N).1.2.2.2.2 = Z.2.2.2.2 + (11 + 4 * (N * N) + 2 * (N + 1) + 8 * N) := ⟨rfl, by
  show Z.2.2.2.2 + 11 + 2 * (N * N) + 2 * (N * N) + (N + 1) + 4 * N + (N + 1) + 4 * N = _
  omega⟩
theorem pf_old (hx : 99 ≤ Z.2.2.2.1) {a : Nat} (ha : a < Z.2.2.2.1) : (pfS (Z, I, L) N).1.1 a = Z.1 a ∧ (pfS (Z, I, L) N).1.2.2.1 a = Z.2.2.1 a ∧ (∀ k, ¬ (a = 0 ∧ k = 13) → (pfS (Z, I, L) N).1.2.1 a k = Z.2.1 a k) ∧ (pfS (Z, I, L) N).2.1 a = I a := by
  have hx : 99 ≤ cx (Z, I, L) := hx
  have ha : a < cx (Z, I, L) := ha
  have e0 : a ≠ cx (Z, I, L) := by omega
  have e1 : a ≠ cx (Z, I, L) + 1 := by omega
  have e2 : a ≠ cx (Z, I, L) + 1 + 1 := by omega
  have e3 : a ≠ cx (Z, I, L) + 1 + 1 + 1 := by omega
  have e4 : a ≠ cx (Z, I, L) + 1 + 1 + 1 + 1 := by omega
  have e5 : a ≠ cx (Z, I, L) + 1 + 1 + 1 + 1 + 1 := by omega
  have e6 : a ≠ cx (Z, I, L) + 1 + 1 + 1 + 1 + 1 + 1 := by omega
  refine ⟨?_, ?_, fun k hk => ?_, ?_⟩
  · show cT (pfS (Z, I, L) N) a = cT (Z, I, L) a
    simp only [pfS, peS, phS, arS, cT_nw, cT_pR, cT_pI, cx_nw, cx_pR, cx_pI, e0, e1, e2, e3, e4, e5, e6, if_false]
  · show cN (pfS (Z, I, L) N) a = cN (Z, I, L) a
    simp only [pfS, peS, phS, arS, cN_nw, cN_pR, cN_pI, cx_nw, cx_pR, cx_pI, e0, e1, e2, e3, e4, e5, e6, if_false]
  · show cR (pfS (Z, I, L) N) a k = cR (Z, I, L) a k
    simp only [pfS, peS, phS, arS, cR_nw, cR_pR, cR_pI, cx_nw, cx_pR, cx_pI, e0, e1, e2, e3, e4, e5, e6, if_false, false_and, hk]
  · show cI (pfS (Z, I, L) N) a = cI (Z, I, L) a
    simp only [pfS, peS, phS, arS, cI_nw, cI_pR, cI_pI, cx_nw, cx_pR, cx_pI, e0, e1, e2, e3, e4, e5, e6, if_false]
theorem pf_13 : (pfS (Z, I, L) N).1.2.1 0 13 = some Z.2.2.2.1 := by
  show cR (pR _ 0 13 _) 0 13 = _
  rw [cR_pR, if_pos ⟨rfl, rfl⟩]; rfl
theorem pf_T (j : Nat) (hj : j < 7) : cT (pfS (Z, I, L) N) (cx (Z, I, L) + j) = [0, 13, 13, 13, 13, 13, 13].getD j 0 := by
  have cs : j = 0 ∨ j = 1 ∨ j = 2 ∨ j = 3 ∨ j = 4 ∨ j = 5 ∨ j = 6 := by omega
  simp only [pfS, peS, phS, arS, cT_nw, cT_pR, cT_pI, cx_nw, cx_pR, cx_pI]
  rcases cs with rfl | rfl | rfl | rfl | rfl | rfl | rfl <;> simp [Nat.add_assoc]
theorem pf_N (j : Nat) (hj : j < 7) : cN (pfS (Z, I, L) N) (cx (Z, I, L) + j) = [11, 2 * (N * N), 2 * (N * N), N + 1, 4 * N, N + 1, 4 * N].getD j 0 := by
  have cs : j = 0 ∨ j = 1 ∨ j = 2 ∨ j = 3 ∨ j = 4 ∨ j = 5 ∨ j = 6 := by omega
  simp only [pfS, peS, phS, arS, cN_nw, cN_pR, cN_pI, cx_nw, cx_pR, cx_pI]
  rcases cs with rfl | rfl | rfl | rfl | rfl | rfl | rfl <;> simp [Nat.add_assoc]
theorem pf_R (hx : 99 ≤ Z.2.2.2.1) (j v : Nat) (hj : (j, v) ∈ [(0, 18), (1, 66), (4, cx (Z, I, L) + 1), (5, cx (Z, I, L) + 2), (7, cx (Z, I, L) + 3), (8, cx (Z, I, L) + 4), (9, cx (Z, I, L) + 5), (10, cx (Z, I, L) + 6)]) : cR (pfS (Z, I, L) N) (cx (Z, I, L)) j = some v := by
  have hx : 99 ≤ cx (Z, I, L) := hx
  have x0 : cx (Z, I, L) ≠ 0 := by omega
  simp only [pfS, peS, phS, arS, cR_nw, cR_pR, cR_pI, cx_nw, cx_pR, cx_pI]
  simp only [List.mem_cons, Prod.mk.injEq, List.not_mem_nil, or_false] at hj
  rcases hj with ⟨rfl, rfl⟩ | ⟨rfl, rfl⟩ | ⟨rfl, rfl⟩ | ⟨rfl, rfl⟩ | ⟨rfl, rfl⟩ | ⟨rfl, rfl⟩ | ⟨rfl, rfl⟩ | ⟨rfl, rfl⟩ <;> simp [x0, Nat.add_assoc]
theorem pf_I : cI (pfS (Z, I, L) N) (cx (Z, I, L)) 2 = nI N ∧ cI (pfS (Z, I, L) N) (cx (Z, I, L)) 3 = nI (N * N) := by
  simp only [pfS, peS, phS, arS, cI_nw, cI_pR, cI_pI, cx_nw, cx_pR, cx_pI]
  simp [Nat.add_assoc, upd]
theorem pf_new (hx : 99 ≤ Z.2.2.2.1) : PEz (pfS (Z, I, L) N).1 Z.2.2.2.1 N := by
  have km : ∀ j, j < 7 → KM (pfS (Z, I, L) N).1 (Z.2.2.2.1 + j) ([0, 13, 13, 13, 13, 13, 13].getD j 0) := fun j hj => ⟨by rw [pf_x.1]; omega, pf_T j hj⟩
  exact ⟨hx, km 0 (by decide), pf_R hx 0 18 (by simp), pf_R hx 1 66 (by simp), ⟨pf_R hx 4 _ (by simp; rfl), km 1 (by decide), pf_N 1 (by decide)⟩, ⟨pf_R hx 5 _ (by simp; rfl), km 2 (by decide), pf_N 2 (by decide)⟩, ⟨pf_R hx 7 _ (by simp; rfl), km 3 (by decide), pf_N 3 (by decide)⟩, ⟨pf_R hx 8 _ (by simp; rfl), km 4 (by decide), pf_N 4 (by decide)⟩, ⟨pf_R hx 9 _ (by simp; rfl), km 5 (by decide), pf_N 5 (by decide)⟩, ⟨pf_R hx 10 _ (by simp; rfl), km 6 (by decide), pf_N 6 (by decide)⟩⟩
end PMAKE
