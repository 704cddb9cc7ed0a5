/-! the law's loop -/
theorem and31 (x : Int32) : ∃ k, k < 32 ∧ x &&& 31 = nI k := by
  refine ⟨(x.toBitVec &&& 31#32).toNat, ?_, ?_⟩
  · rw [BitVec.toNat_and]
    exact Nat.lt_of_le_of_lt Nat.and_le_right (by decide)
  · apply Int32.toBitVec_inj.mp
    show x.toBitVec &&& 31#32 = BitVec.ofNat 32 _
    rw [BitVec.ofNat_toNat]
    simp
theorem len6 {L i : Nat} (hL : L ≤ 3074) (hi : i ≤ 10000) : Int32.ofNat L - 6 < nI i ↔ L < i + 6 := by
  have e : (Int32.ofNat L - 6).toInt = (L : Int) - 6 := by
    rw [Int32.toInt_sub, show (Int32.ofNat L).toInt = (L : Int) from nI_toInt (by omega), show (6 : Int32).toInt = 6 from rfl]
    exact Int.bmod_eq_of_le (by omega) (by omega)
  rw [Int32.lt_iff_toInt_lt, e, nI_toInt (by omega)]
  omega
section LAWL
variable {g : GE} {p : Program} {e : Env} {s : State} {m : MethodId} {below : List Frame} {meth : Method} {c : Code} {b L : Nat} {xs : Nat → Int32} {w h : Nat}
theorem law_end (C : LCw g p s m meth c b L xs) {i : Nat} {M : Mem} (b1 : pxZ M.1 ≤ room_1.cells) (b2 : psZ M.1 ≤ room_1.slots) : Lw g p e s m below meth c b 1074 (lvL g b i) [] M := by
  have e1 := px_le M.1
  refine lw_iconst C (v := 1) (by decide) dL_law_1074 rfl ?_
  exact lw_end C dL_law_1075 (Nat.le_trans e1.1 b1) (Nat.le_trans e1.2 b2)
theorem law_loop (C : LCw g p s m meth c b L xs) (hL : L ≤ 3074) : ∀ (n i : Nat) (M : Mem), L ≤ i + 6 * n → i ≤ 4000 → (∃ S K tx tk tp ts, Jv M.1 M.2.1 w h S K tx tk tp ts) → pxZ M.1 + 2 * n ≤ room_1.cells → psZ M.1 + 604 * n ≤ room_1.slots → Lw g p e s m below meth c b 38 (lvL g b i) [] M := by
  have hhead : ∀ (i : Nat) (M : Mem), i ≤ 4000 → pxZ M.1 ≤ room_1.cells → psZ M.1 ≤ room_1.slots → (i + 6 ≤ L → Lw g p e s m below meth c b 47 (lvL g b i) [] M) → Lw g p e s m below meth c b 38 (lvL g b i) [] M := by
    intro i M hi b1 b2 kk
    refine lw_iload_n C (i := 3) (q := 0) rfl dL_law_38 rfl ?_
    refine lw_aload_n C (i := 0) (q := 3) rfl dL_law_39 rfl ?_
    refine lw_alen C dL_law_40 rfl ?_
    refine lw_bipush C (v := 6) (by decide) dL_law_41 rfl ?_
    refine lw_isub C dL_law_43 rfl ?_
    refine lw_icmp_gt C (tgt := 1074) dL_law_44 (by decide) rfl (fun z => ?_) (fun z => ?_)
    · exact law_end C b1 b2
    · exact kk (by have := mt (len6 hL (by omega)).mpr z; omega)
  intro n
  induction n with
  | zero =>
    intro i M hn hi _ b1 b2
    exact hhead i M hi b1 b2 (fun z => absurd z (by omega))
  | succ n ih =>
    intro i M hn hi hJ b1 b2
    refine hhead i M hi (by omega) (by omega) (fun hi6 => ?_)
    obtain ⟨S, K, tx, tk, tp, ts, j⟩ := hJ
    have hS := j.1.1.1
    have k0 : KM M.1 0 11 := hS.k 0 11 (by decide) (by decide)
    have k76 : KM M.1 76 12 := hS.k 76 12 (by decide) (by decide)
    have nx : ∀ M2 : Mem, (∃ S K tx tk tp ts, Jv M2.1 M2.2.1 w h S K tx tk tp ts) → pxZ M2.1 ≤ pxZ M.1 + 2 → psZ M2.1 ≤ psZ M.1 + 604 → Lw g p e s m below meth c b 1068 (lvL g b i) [] M2 := by
      intro M2 hJ2 p1 p2
      refine lw_iinc C (i := 3) (q := 0) (z := 6) (v := nI (i + 6)) (lv' := lvL g b (i + 6)) rfl (show nI i + Int32.ofInt 6 = nI (i + 6) from nI_add i 6) dL_law_1068 rfl (by decide) rfl ?_
      refine lw_goto C (n := 38) dL_law_1071 (by decide) ?_
      exact ih (i + 6) M2 (by omega) (by omega) hJ2 (by omega) (by omega)
    have c1 : pxZ M.1 + 2 ≤ room_1.cells := by omega
    have c2 : psZ M.1 + 604 ≤ room_1.slots := Nat.le_trans (Nat.add_le_add_left (Nat.le_mul_of_pos_right 604 (Nat.succ_pos n)) _) b2
    refine lw_aload_n C (i := 0) (q := 3) rfl dL_law_47 rfl ?_
    refine lw_iload_n C (i := 3) (q := 0) rfl dL_law_48 rfl ?_
    refine lw_iald C (vp_in_nI (by omega) (by omega)) dL_law_49 rfl ?_
    refine lw_bipush C (v := 31) (by decide) dL_law_50 rfl ?_
    refine lw_iand C dL_law_52 rfl ?_
    obtain ⟨k, hk, ek⟩ := and31 (xs (nI i).toNatClampNeg)
    rw [ek]
    have cs : k = 0 ∨ k = 1 ∨ k = 2 ∨ k = 3 ∨ k = 4 ∨ k = 5 ∨ k = 6 ∨ k = 7 ∨ k = 8 ∨ k = 9 ∨ k = 10 ∨ k = 11 ∨ k = 12 ∨ k = 13 ∨ k = 14 ∨ k = 15 ∨ k = 16 ∨ k = 17 ∨ k = 18 ∨ k = 19 ∨ k = 20 ∨ k = 21 ∨ k = 22 ∨ k = 23 ∨ k = 24 ∨ k = 25 ∨ k = 26 ∨ 27 ≤ k := by omega
    rcases cs with rfl | rfl | rfl | rfl | rfl | rfl | rfl | rfl | rfl | rfl | rfl | rfl | rfl | rfl | rfl | rfl | rfl | rfl | rfl | rfl | rfl | rfl | rfl | rfl | rfl | rfl | rfl | h27
    · refine lw_tabI C (x := nI 0) (off := 123) (n := 176) dL_law_53 (by decide) (by decide) (by decide) (by decide) ?_
      exact ca_cell C hL hi6 k0 k76 c1 c2 (ag_cell (L := M.2.2) j _ _) nx
    · refine lw_tabI C (x := nI 1) (off := 156) (n := 209) dL_law_53 (by decide) (by decide) (by decide) (by decide) ?_
      exact ca_pair C hL hi6 k0 k76 c1 c2 (ag_pair (L := M.2.2) j _ _) nx
    · refine lw_tabI C (x := nI 2) (off := 189) (n := 242) dL_law_53 (by decide) (by decide) (by decide) (by decide) ?_
      exact ca_feed C hL hi6 k0 k76 c1 c2 (ag_feed (L := M.2.2) j _ _ _ _ _) nx
    · refine lw_tabI C (x := nI 3) (off := 252) (n := 305) dL_law_53 (by decide) (by decide) (by decide) (by decide) ?_
      exact ca_end C hL hi6 k0 k76 c1 c2 (ag_end (L := M.2.2) j _) nx
    · refine lw_tabI C (x := nI 4) (off := 275) (n := 328) dL_law_53 (by decide) (by decide) (by decide) (by decide) ?_
      exact ca_text C hL hi6 k0 k76 c1 c2 (ag_text (L := M.2.2) j) nx
    · refine lw_tabI C (x := nI 5) (off := 288) (n := 341) dL_law_53 (by decide) (by decide) (by decide) (by decide) ?_
      exact ca_fault C hL hi6 k0 k76 c1 c2 (ag_fault (L := M.2.2) j _) nx
    · refine lw_tabI C (x := nI 6) (off := 311) (n := 364) dL_law_53 (by decide) (by decide) (by decide) (by decide) ?_
      exact ca_goes C hL hi6 k0 k76 c1 c2 (ag_goes (L := M.2.2) j _ _ _) nx
    · refine lw_tabI C (x := nI 7) (off := 354) (n := 407) dL_law_53 (by decide) (by decide) (by decide) (by decide) ?_
      exact ca_tap C hL hi6 k0 k76 c1 c2 (ag_tap (L := M.2.2) j _ _) nx
    · refine lw_tabI C (x := nI 8) (off := 387) (n := 440) dL_law_53 (by decide) (by decide) (by decide) (by decide) ?_
      exact ca_row C hL hi6 k0 k76 c1 c2 (ag_row (L := M.2.2) j _) nx
    · refine lw_tabI C (x := nI 9) (off := 410) (n := 463) dL_law_53 (by decide) (by decide) (by decide) (by decide) ?_
      exact ca_walk C hL hi6 k0 k76 c1 c2 (ag_walk (L := M.2.2) j _) nx
    · refine lw_tabI C (x := nI 10) (off := 433) (n := 486) dL_law_53 (by decide) (by decide) (by decide) (by decide) ?_
      exact ca_undo C hL hi6 k0 k76 c1 c2 (ag_undo (L := M.2.2) j) nx
    · refine lw_tabI C (x := nI 11) (off := 446) (n := 499) dL_law_53 (by decide) (by decide) (by decide) (by decide) ?_
      exact ca_of C hL hi6 k0 k76 c1 c2 (ag_of (L := M.2.2) j _ _) nx
    · refine lw_tabI C (x := nI 12) (off := 479) (n := 532) dL_law_53 (by decide) (by decide) (by decide) (by decide) ?_
      exact ca_fewest C hL hi6 k0 k76 c1 c2 (ag_fewest (L := M.2.2) j _ _ _ _) nx
    · refine lw_tabI C (x := nI 13) (off := 532) (n := 585) dL_law_53 (by decide) (by decide) (by decide) (by decide) ?_
      exact ca_tells C hL hi6 k0 k76 c1 c2 (ag_tells (L := M.2.2) j _ _ _ _) nx
    · refine lw_tabI C (x := nI 14) (off := 585) (n := 638) dL_law_53 (by decide) (by decide) (by decide) (by decide) ?_
      exact ca_odds C hL hi6 k0 k76 c1 c2 (ag_odds (L := M.2.2) j _ _ _ _ _) nx
    · refine lw_tabI C (x := nI 15) (off := 649) (n := 702) dL_law_53 (by decide) (by decide) (by decide) (by decide) ?_
      exact ca_seen C hL hi6 k0 k76 c1 c2 (ag_seen (L := M.2.2) j _ _ _) nx
    · refine lw_tabI C (x := nI 16) (off := 692) (n := 745) dL_law_53 (by decide) (by decide) (by decide) (by decide) ?_
      exact ca_holds C hL hi6 k0 k76 c1 c2 (ag_holds (L := M.2.2) j) nx
    · refine lw_tabI C (x := nI 17) (off := 705) (n := 758) dL_law_53 (by decide) (by decide) (by decide) (by decide) ?_
      exact ca_dark C hL hi6 k0 k76 c1 c2 (ag_dark (L := M.2.2) j _ _ _) nx
    · refine lw_tabI C (x := nI 18) (off := 748) (n := 801) dL_law_53 (by decide) (by decide) (by decide) (by decide) ?_
      exact ca_rider C hL hi6 k0 k76 c1 c2 (ag_rider (L := M.2.2) j _) nx
    · refine lw_tabI C (x := nI 19) (off := 771) (n := 824) dL_law_53 (by decide) (by decide) (by decide) (by decide) ?_
      exact ca_carrier C hL hi6 k0 k76 c1 c2 (ag_carrier (L := M.2.2) j _) nx
    · refine lw_tabI C (x := nI 20) (off := 794) (n := 847) dL_law_53 (by decide) (by decide) (by decide) (by decide) ?_
      exact ca_wed C hL hi6 k0 k76 c1 c2 (ag_wed (L := M.2.2) j _ _ _) nx
    · refine lw_tabI C (x := nI 21) (off := 837) (n := 890) dL_law_53 (by decide) (by decide) (by decide) (by decide) ?_
      exact ca_crowd C hL hi6 k0 k76 c1 c2 (ag_crowd (L := M.2.2) j _) nx
    · refine lw_tabI C (x := nI 22) (off := 860) (n := 913) dL_law_53 (by decide) (by decide) (by decide) (by decide) ?_
      exact ca_chase C hL hi6 k0 k76 c1 c2 (ag_chase (L := M.2.2) j _ _ _ _) nx
    · refine lw_tabI C (x := nI 23) (off := 913) (n := 966) dL_law_53 (by decide) (by decide) (by decide) (by decide) ?_
      exact ca_hunt C hL hi6 k0 k76 c1 c2 (ag_hunt (L := M.2.2) j _ _ _ _) nx
    · refine lw_tabI C (x := nI 24) (off := 966) (n := 1019) dL_law_53 (by decide) (by decide) (by decide) (by decide) ?_
      exact ca_image C hL hi6 k0 k76 c1 c2 (ag_image (L := M.2.2) j) nx
    · refine lw_tabI C (x := nI 25) (off := 979) (n := 1032) dL_law_53 (by decide) (by decide) (by decide) (by decide) ?_
      exact ca_back C hL hi6 k0 k76 c1 c2 (ag_back (L := M.2.2) j) nx
    · refine lw_tabI C (x := nI 26) (off := 992) (n := 1045) dL_law_53 (by decide) (by decide) (by decide) (by decide) ?_
      exact ca_about C hL hi6 k0 k76 c1 c2 (ag_about (L := M.2.2) j _) nx
    · refine lw_tabO C (n := 1068) dL_law_53 (Or.inr ?_) (by decide) (nx M ⟨S, K, tx, tk, tp, ts, j⟩ (by omega) (by omega))
      rw [nI_toInt (by omega)]
      omega
end LAWL
