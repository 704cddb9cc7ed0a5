/-! the class's search: seek -/
def XF (Z : Zs) (sa : Nat) : Prop := ∀ sc ar, KM Z sc 6 → Z.2.1 sc 0 = some ar → ¬ (sa ≤ ar ∧ ar ≤ sa + 6)
def HS (Z : Zs) (I : Nat → Nat → Int32) (sa n : Nat) (T : List Nat) (goal : Option Nat) (s : ST) : Prop := IL Z I (sa + 1) (sa + 2) 3 T ∧ T.length = n ∧ I sa 7 = oI goal ∧ I sa 6 = nI s.1.length ∧ (∀ k, k < s.1.length → I (sa + 3) k = nI (encF (pr (s.1.getD k (0, 0, 0))) n)) ∧ (∀ k, 0 < k → k < s.1.length → I (sa + 4) k = nI (s.2.1.getD k 0) ∧ I (sa + 5) k = nI (s.2.2.getD k 0)) ∧ HT (I (sa + 6)) (s.1.map (fun r => encF (pr r) n))
def ckI (o : Option (Option Nat) × ST) : Int32 := match o.1 with
  | none => -1
  | some none => -2
  | some (some j) => nI (dpF o.2.2.1 3001 j)
theorem map_getD {f : TR → Nat} {xs : List TR} {k : Nat} (hk : k < xs.length) : (xs.map f).getD k 0 = f (xs.getD k (0, 0, 0)) := by
  rw [List.getD_eq_getElem?_getD, List.getElem?_map, List.getElem?_eq_getElem hk, List.getD_eq_getElem?_getD, List.getElem?_eq_getElem hk]; rfl
section CSEEK
variable {g : GE} {Z : Zs} {I : Nat → Nat → Int32} {L : Nat → Nat → Int64} {w h : Nat} {S : Nat → List Nat} {tx : List TX} {sa n : Nat} {T : List Nat} {tt : Nat → TX} {goal : Option Nat}
theorem SE.no6 (hE : SE Z sa) {sc : Nat} (k : KM Z sc 6) : ¬ (sa ≤ sc ∧ sc ≤ sa + 6) := fun ⟨h1, h2⟩ => by
  obtain ⟨e0, e1, e2, ⟨t1, t2, t3, t4, t5⟩, ⟨r1, r2, r3⟩, ⟨b1, b2, b3⟩, ⟨p1, p2, p3⟩, ⟨s1, s2, s3⟩⟩ := hE
  have cs : sc = sa ∨ sc = sa + 1 ∨ sc = sa + 2 ∨ sc = sa + 3 ∨ sc = sa + 4 ∨ sc = sa + 5 ∨ sc = sa + 6 := by omega
  rcases cs with rfl | rfl | rfl | rfl | rfl | rfl | rfl
  · exact k.ne e1 (by decide) rfl
  · exact k.ne t2 (by decide) rfl
  · exact k.ne t4 (by decide) rfl
  · exact k.ne r2 (by decide) rfl
  · exact k.ne b2 (by decide) rfl
  · exact k.ne p2 (by decide) rfl
  · exact k.ne s2 (by decide) rfl
theorem TC.xk {I1 : Nat → Nat → Int32} {sc lo hi : Nat} {t : TX} (k : TC Z I sc t) (hs : ¬ (lo ≤ sc ∧ sc ≤ hi)) (hx : ∀ ar, Z.2.1 sc 0 = some ar → ¬ (lo ≤ ar ∧ ar ≤ hi)) (hf : ∀ a, 99 ≤ a → ¬ (lo ≤ a ∧ a ≤ hi) → I1 a = I a) : TC Z I1 sc t := by
  obtain ⟨h1, h2, ar, ords, h3, h4, h5, h6, h7, h8⟩ := k
  have e := hf sc h1 hs
  refine ⟨h1, h2, ar, ords, h3, h4, ⟨h5.1, h5.2.1, h5.2.2.1, fun k v hk => ?_⟩, by rw [e]; exact h6, by rw [e]; exact h7, by rw [e]; exact h8⟩
  rw [hf ar h3 (hx ar h4)]
  exact h5.2.2.2 k v hk
/-- what is written into the search's rows changes nothing else -/
theorem CL.xw {I1 : Nat → Nat → Int32} (cl : CL Z I w h S tx) (hE : SE Z sa) (hX : XF Z sa) (hf : ∀ a, ¬ (sa ≤ a ∧ a ≤ sa + 6) → I1 a = I a) : CL Z I1 w h S tx := by
  obtain ⟨⟨k0, k1, k2, k3, k4, k5, k6, k7, k8⟩, hW, hm, hN, hK⟩ := cl
  have e0 := hE.1
  have e18 : I1 18 = I 18 := hf 18 (by omega)
  refine ⟨⟨k0, k1, by rw [e18]; exact k2, by rw [e18]; exact k3, k4, fun f hf2 => ?_, by rw [e18]; exact k6, k7, fun j t hj => ?_⟩, hW, hm.kept (by rw [hf 13 (by omega)]) (hf 15 (by omega)), hN, by rw [hf 67 (by omega)]; exact hK⟩
  · obtain ⟨b1, b2, b3⟩ := nA_in f hf2
    exact (k5 f hf2).kept (by rw [hf _ (by omega)]) (fun q _ => by rw [hf _ (by omega)])
  · obtain ⟨sc, h1, h2⟩ := k8 j t hj
    exact ⟨sc, h1, h2.xk (hE.no6 h2.2.1) (fun ar har => hX sc ar h2.2.1 har) (fun a _ ha => hf a ha)⟩
theorem HS.kept {I1 : Nat → Nat → Int32} {s : ST} (k : HS Z I sa n T goal s) (hf : ∀ a, sa ≤ a → a ≤ sa + 6 → I1 a = I a) : HS Z I1 sa n T goal s := by
  obtain ⟨k1, k2, k3, k4, k5, k6, k7⟩ := k
  exact ⟨k1.kept (by rw [hf _ (by omega) (by omega)]) (fun q _ => by rw [hf _ (by omega) (by omega)]), k2, by rw [hf _ (by omega) (by omega)]; exact k3, by rw [hf _ (by omega) (by omega)]; exact k4, by rw [hf _ (by omega) (by omega)]; exact k5, by rw [hf _ (by omega) (by omega), hf (sa + 5) (by omega) (by omega)]; exact k6, by rw [hf _ (by omega) (by omega)]; exact k7⟩
theorem sp_keep (hE : SE Z sa) {m : Nat} {x1 x3 x4 : Int32} {q : Nat} (hm : m < 3001) (h6 : I sa 6 = nI m) (hq : q < 8192) : ∃ I1, Cl g 1 mu_X7_keep [rf g sa, .int x1, .int (nI q), .int x3, .int x4] (Z, I, L) none (Z, I1, L) ∧ I1 sa = upd (I sa) 6 (nI (m + 1)) ∧ I1 (sa + 3) = upd (I (sa + 3)) m x1 ∧ I1 (sa + 4) = upd (I (sa + 4)) m x3 ∧ I1 (sa + 5) = upd (I (sa + 5)) m x4 ∧ I1 (sa + 6) = upd (I (sa + 6)) q (nI (m + 1)) ∧ ∀ a, a ≠ sa → a ≠ sa + 3 → a ≠ sa + 4 → a ≠ sa + 5 → a ≠ sa + 6 → I1 a = I a := by
  obtain ⟨e0, e1, e2, e3, ⟨r1, r2, r3⟩, ⟨b1, b2, b3⟩, ⟨p1, p2, p3⟩, ⟨s1, s2, s3⟩⟩ := hE
  obtain ⟨J1, q1⟩ : ∃ J, J = rw1 I (sa + 3) (upd (I (sa + 3)) m x1) := ⟨_, rfl⟩
  obtain ⟨J2, q2⟩ : ∃ J, J = rw1 J1 (sa + 4) (upd (J1 (sa + 4)) m x3) := ⟨_, rfl⟩
  obtain ⟨J3, q3⟩ : ∃ J, J = rw1 J2 (sa + 5) (upd (J2 (sa + 5)) m x4) := ⟨_, rfl⟩
  obtain ⟨J4, q4⟩ : ∃ J, J = rw1 J3 sa (upd (J3 sa) 6 (nI (m + 1))) := ⟨_, rfl⟩
  obtain ⟨J5, q5⟩ : ∃ J, J = rw1 J4 (sa + 6) (upd (J4 (sa + 6)) q (nI (m + 1))) := ⟨_, rfl⟩
  have f1 : J1 sa = I sa := by rw [q1, rw1_n _ _ (by omega)]
  have f2 : J2 sa = I sa := by rw [q2, rw1_n _ _ (by omega), f1]
  have f3 : J3 sa = I sa := by rw [q3, rw1_n _ _ (by omega), f2]
  have cm : (nI m).toNatClampNeg = m := nI_clamp (by omega)
  have v3 : ∀ a, Z.2.2.1 a = 3001 → vp_in (nI m) (Z.2.2.1 a) := fun a ha => by rw [ha]; exact vp_in_nI hm (by decide)
  refine ⟨J5, cp_X7_keep e1 r1 r2 b1 b2 p1 p2 s1 s2 ⟨fun e => ?_, fun _ => ?_⟩, ?_, ?_, ?_, ?_, ?_, fun a h0 h3 h4 h5 h6' => ?_⟩
  · rw [h6] at e
    exact absurd ((nI_leI (a := 3001) (by decide) (by omega)).mp e) (by omega)
  · rw [h6, cm]
    refine ⟨v3 _ r3, fun I2 h2 => ?_⟩
    rw [← q1] at h2
    rw [h2, f1, h6, cm]
    refine ⟨v3 _ b3, fun I4 h4 => ?_⟩
    rw [← q2] at h4
    rw [h4, f2, h6, cm]
    refine ⟨v3 _ p3, fun I6 h6' I7 h7 => ?_⟩
    rw [← q3] at h6'
    rw [h6', f3, h6, nI_1, ← f3, ← q4] at h7
    rw [h7]
    refine ⟨by rw [s3]; exact vp_in_nI hq (by decide), fun I9 h9 => ⟨rfl, ?_⟩⟩
    have e46 : J4 sa 6 = nI (m + 1) := by rw [q4, rw1_s]; rfl
    rw [e46, nI_clamp (by omega), ← q5] at h9
    rw [h9]
  · rw [q5, rw1_n _ _ (by omega), q4, rw1_s, f3]
  · rw [q5, rw1_n _ _ (by omega), q4, rw1_n _ _ (by omega), q3, rw1_n _ _ (by omega), q2, rw1_n _ _ (by omega), q1, rw1_s]
  · rw [q5, rw1_n _ _ (by omega), q4, rw1_n _ _ (by omega), q3, rw1_n _ _ (by omega), q2, rw1_s, q1, rw1_n _ _ (by omega)]
  · rw [q5, rw1_n _ _ (by omega), q4, rw1_n _ _ (by omega), q3, rw1_s, q2, rw1_n _ _ (by omega), q1, rw1_n _ _ (by omega)]
  · rw [q5, rw1_s, q4, rw1_n _ _ (by omega), q3, rw1_n _ _ (by omega), q2, rw1_n _ _ (by omega), q1, rw1_n _ _ (by omega)]
  · rw [q5, rw1_n _ _ h6', q4, rw1_n _ _ h0, q3, rw1_n _ _ h5, q2, rw1_n _ _ h4, q1, rw1_n _ _ h3]
theorem HS.put {I1 : Nat → Nat → Int32} {s : ST} {r : TR} {hd tap q : Nat} {x3 x4 : Int32} (k : HS Z I sa n T goal s) (hl : s.1.length < 3001) (hx : 0 < s.1.length → x3 = nI hd ∧ x4 = nI tap) (hF : s.2.1.length = s.1.length) (hB : s.2.2.length = s.1.length) (hf : FS (I (sa + 6)) (encF (pr r) n) q) (a1 : I1 sa = upd (I sa) 6 (nI (s.1.length + 1))) (a2 : I1 (sa + 3) = upd (I (sa + 3)) s.1.length (nI (encF (pr r) n))) (a3 : I1 (sa + 4) = upd (I (sa + 4)) s.1.length x3) (a4 : I1 (sa + 5) = upd (I (sa + 5)) s.1.length x4) (a5 : I1 (sa + 6) = upd (I (sa + 6)) q (nI (s.1.length + 1))) (a6 : ∀ a, a ≠ sa → a ≠ sa + 3 → a ≠ sa + 4 → a ≠ sa + 5 → a ≠ sa + 6 → I1 a = I a) : HS Z I1 sa n T goal (s.1 ++ [r], s.2.1 ++ [hd], s.2.2 ++ [tap]) := by
  obtain ⟨k1, k2, k3, k4, k5, k6, k7⟩ := k
  have len : (s.1 ++ [r]).length = s.1.length + 1 := by rw [List.length_append, List.length_singleton]
  refine ⟨k1.kept (by rw [a6 _ (by omega) (by omega) (by omega) (by omega) (by omega)]) (fun j _ => by rw [a6 _ (by omega) (by omega) (by omega) (by omega) (by omega)]), k2, ?_, ?_, fun j hj => ?_, fun j h0 hj => ?_, ?_⟩
  · rw [a1]; unfold upd; rw [if_neg (by decide)]; exact k3
  · show I1 sa 6 = nI (s.1 ++ [r]).length
    rw [a1, len]; rfl
  · have hj : j < (s.1 ++ [r]).length := hj
    rw [len] at hj
    show I1 (sa + 3) j = nI (encF (pr ((s.1 ++ [r]).getD j (0, 0, 0))) n)
    rw [a2, getD_app]
    unfold upd
    by_cases he : j = s.1.length
    · rw [if_pos he, if_neg (by omega), if_pos he]
    · rw [if_neg he, if_pos (by omega)]; exact k5 j (by omega)
  · have hj : j < (s.1 ++ [r]).length := hj
    rw [len] at hj
    show I1 (sa + 4) j = nI ((s.2.1 ++ [hd]).getD j 0) ∧ I1 (sa + 5) j = nI ((s.2.2 ++ [tap]).getD j 0)
    rw [a3, a4, getD_app, getD_app, hF, hB]
    unfold upd
    by_cases he : j = s.1.length
    · obtain ⟨z1, z2⟩ := hx (by omega)
      rw [if_pos he, if_neg (by omega), if_pos he, if_pos he, if_neg (by omega), if_pos he, z1, z2]; exact ⟨rfl, rfl⟩
    · rw [if_neg he, if_pos (by omega), if_neg he, if_pos (by omega)]; exact k6 j h0 (by omega)
  · show HT (I1 (sa + 6)) ((s.1 ++ [r]).map (fun r => encF (pr r) n))
    rw [a5, List.map_append]
    have := k7.put (by rw [List.length_map]; omega) hf
    rw [List.length_map] at this
    exact this
theorem tl_run (hE : SE Z sa) {F : List Nat} {m : Nat} (hm : m ≤ 3001) (hF : ∀ k, 0 < k → k < m → I (sa + 4) k = nI (F.getD k 0) ∧ F.getD k 0 < k) : ∀ (f j c k : Nat), k + f = 3001 → j < m → Lp_X7_tapsToLatest_11 g 1 sa (nI c) (nI j) (nI k) (Z, I, L) (some (.int (nI (c + dpF F f j)))) (Z, I, L) := by
  obtain ⟨e0, e1, e2, e3, e4, ⟨b1, b2, b3⟩, e6, e7⟩ := hE
  intro f
  induction f with
  | zero =>
    intro j c k hk hj
    exact wp_X7_tapsToLatest_11 e1 b1 b2 ⟨fun _ => ⟨rfl, rfl⟩, fun e => absurd ((nI_leI (a := 3001) (by decide) (by omega)).mpr (by omega)) e⟩
  | succ f ih =>
    intro j c k hk hj
    refine wp_X7_tapsToLatest_11 e1 b1 b2 ⟨fun e => absurd ((nI_leI (a := 3001) (by decide) (by omega)).mp e) (by omega), fun _ => ⟨fun e => ⟨?_, rfl⟩, fun e => ?_⟩⟩
    · have : j = 0 := by have := (nI_leI (b := 0) (by omega) (by decide)).mp e; omega
      subst this
      rfl
    · have h0 : ¬ j = 0 := fun z => e (by rw [z]; decide)
      obtain ⟨z1, z2⟩ := hF j (by omega) hj
      rw [nI_clamp (by omega), z1]
      refine ⟨by rw [b3]; exact vp_in_nI (by omega) (by decide), fun y hy y2 hy2 y3 hy3 => ?_⟩
      rw [hy, hy2, hy3, nI_1, nI_1, show c + dpF F (f + 1) j = c + 1 + dpF F f (F.getD j 0) from by
        show c + (if j = 0 then 0 else dpF F f (F.getD j 0) + 1) = _
        rw [if_neg h0]; omega]
      exact ih (F.getD j 0) (c + 1) (k + 1) (by omega) (by omega)
theorem sp_latest (hE : SE Z sa) {F : List Nat} {j : Nat} (hj : j < 3001) (h6 : I sa 6 = nI (j + 1)) (hF : ∀ k, 0 < k → k < j + 1 → I (sa + 4) k = nI (F.getD k 0) ∧ F.getD k 0 < k) : Cl g 1 mu_X7_tapsToLatest [rf g sa] (Z, I, L) (some (.int (nI (dpF F 3001 j)))) (Z, I, L) := by
  refine cp_X7_tapsToLatest hE.2.1 (fun y hy => ?_)
  rw [h6, nI_pred] at hy
  rw [hy]
  have := tl_run (g := g) (L := L) hE (show j + 1 ≤ 3001 by omega) hF 3001 j 0 0 (Nat.zero_add _) (Nat.lt_succ_self _)
  rw [Nat.zero_add] at this
  exact this
/-- what stands behind a search that has found -/
def PO (w h : Nat) (S : Nat → List Nat) (I : Nat → Nat → Int32) (sa n : Nat) (o : Option (Option Nat) × ST) : Prop := ∀ j, o.1 = some (some j) → I sa 6 = nI (j + 1) ∧ o.2.1.length = j + 1 ∧ sok w h S n o.2 ∧ ∀ k, 0 < k → k < j + 1 → I (sa + 4) k = nI (o.2.2.1.getD k 0) ∧ I (sa + 5) k = nI (o.2.2.2.getD k 0)
theorem sk_run (hE : SE Z sa) (hX : XF Z sa) (hn : 1 ≤ n) (h3 : n ≤ 3) (hT : ∀ i, i < n → tx[T.getD i 0]? = some (tt i)) (hgl : ∀ c, goal = some c → c < 100) (h2 : goal = none → n = 2) : ∀ (k hd tap : Nat) (s : ST) (I : Nat → Nat → Int32), CL Z I w h S tx → HS Z I sa n T goal s → sok w h S n s → hd < s.1.length → tap ≤ 4 → (3000 - hd) * 5 + (4 - tap) < k →
    ∃ I1, Lp_X7_seek_83 g 7 sa (nI hd) (nI tap) (Z, I, L) (some (.int (ckI (bfF w h (S 0) n tt goal k hd tap s)))) (Z, I1, L) ∧ CL Z I1 w h S tx ∧ PO w h S I1 sa n (bfF w h (S 0) n tt goal k hd tap s) ∧ ∀ a, ¬ nowA a → ¬ (a = sa ∨ (sa + 3 ≤ a ∧ a ≤ sa + 6)) → I1 a = I a := by
  obtain ⟨e0, e1, e2, e3, ⟨r1, r2, r3⟩, e5, e6, ⟨s1, s2, s3⟩⟩ := id hE
  intro k
  induction k with
  | zero => intro hd tap s I _ _ _ _ _ hk; exact absurd hk (by omega)
  | succ k ih =>
    intro hd tap s I cl hs hk hh ht hfu
    obtain ⟨kc, hW, -⟩ := id cl
    have hm := kc.2.1.mul
    obtain ⟨o1, o2, o3, o4, o5, o6, o7⟩ := id hk
    obtain ⟨k1, k2, k3, k4, k5, k6, k7⟩ := id hs
    have mk := fun (r : Option Value) (M' : Mem) => @wp_X7_seek_83 g Z I L r M' sa (nI hd) (nI tap) (sa + 3) (sa + 6) e1 r1 r2 s1 s2
    by_cases ht4 : tap < 4
    · obtain ⟨rw0, hrw0⟩ : ∃ r0, r0 = s.1.getD hd (0, 0, 0) := ⟨_, rfl⟩
      have hok0 : okR w h S n rw0 := by rw [hrw0]; exact o1 _ (getD_mem hh)
      obtain ⟨rx, hrx⟩ : ∃ rx, rx = nxT w h (S 0) n tt rw0 tap := ⟨_, rfl⟩
      have hokx : okR w h S n rx := by rw [hrx]; exact hok0.nx kc.2.1 hW hn h3
      have hx100 : ∀ i, i < n → pr rx i < 100 := fun i hi => by have := (hokx.1 i hi).1; omega
      have hlt : encF (pr rx) n < 100 ^ n := encF_lt hx100
      have hpw : 100 ^ n ≤ 100 ^ 3 := Nat.pow_le_pow_right (by decide) (by omega)
      obtain ⟨I2, d1, d2, d3⟩ := sp_rowBehind (g := g) (L := L) cl hE k1 k2 hn h3 hT ht4 hok0
      rw [← hrx] at d1
      have fX : ∀ a, sa ≤ a → a ≤ sa + 6 → I2 a = I a := fun a h1 h2 => d3 a (by omega) (by omega) (by omega) (by omega)
      have hs2 := hs.kept fX
      obtain ⟨j1, j2, j3, j4, j5, j6, j7⟩ := id hs2
      have fr2 : ∀ a, ¬ nowA a → I2 a = I a := fun a ha => d3 a (by unfold nowA at ha; omega) (by unfold nowA at ha; omega) (by unfold nowA at ha; omega) (by unfold nowA at ha; omega)
      have cl100 : ∀ j, j < s.1.length → encF (pr (s.1.getD j (0, 0, 0))) n < 2 ^ 31 := fun j hj => by
        have : encF (pr (s.1.getD j (0, 0, 0))) n < 100 ^ n := encF_lt (fun i hi => by have := ((o1 _ (getD_mem hj)).1 i hi).1; omega)
        omega
      obtain ⟨q, q1, q2, q3⟩ := sp_slotOf (g := g) (L := L) (C := s.1.map (fun r => encF (pr r) n)) (c := encF (pr rx) n) hE j7 (fun j hj => by rw [List.length_map] at hj; rw [map_getD hj]; exact j5 j hj) (by rw [List.length_map]; omega) (fun j hj => by rw [List.length_map] at hj; rw [map_getD hj]; exact cl100 j hj) (by omega)
      have er : I (sa + 3) (nI hd).toNatClampNeg = nI (encF (pr rw0) n) := by rw [nI_clamp (by omega), hrw0]; exact k5 hd hh
      have vr : vp_in (nI hd) (Z.2.2.1 (sa + 3)) := by rw [r3]; exact vp_in_nI (by omega) (by decide)
      have vs : vp_in (nI q) (Z.2.2.1 (sa + 6)) := by rw [s3]; exact vp_in_nI q1 (by decide)
      have cq : (nI q).toNatClampNeg = q := nI_clamp (by omega)
      have g4 : ¬ (4 : Int32) ≤ nI tap := fun e => absurd ((nI_leI (a := 4) (by decide) (by omega)).mp e) (by omega)
      have memq : (encF (pr rx) n ∈ s.1.map (fun r => encF (pr r) n)) ↔ rx ∈ s.1 := by
        rw [List.mem_map]
        refine ⟨fun ⟨r, hr1, hr2⟩ => ?_, fun hr => ⟨rx, hr, rfl⟩⟩
        rw [← (o1 r hr1).eq kc.2.1 h3 hokx hr2]; exact hr1
      have unf : bfF w h (S 0) n tt goal (k + 1) hd tap s = (if rx ∈ s.1 then bfF w h (S 0) n tt goal k hd (tap + 1) s else if s.1.length = 3000 then (some none, s) else if thB n goal rx then (some (some s.1.length), (s.1 ++ [rx], s.2.1 ++ [hd], s.2.2 ++ [tap])) else bfF w h (S 0) n tt goal k hd (tap + 1) (s.1 ++ [rx], s.2.1 ++ [hd], s.2.2 ++ [tap])) := by
        rw [hrx, hrw0]
        show (if tap < 4 then _ else _) = _
        rw [if_pos ht4]
      rcases q3 with ⟨hfs, hnm⟩ | ⟨hnz, hmem⟩
      · -- a new row
        have hnr : ¬ rx ∈ s.1 := fun z => hnm (memq.mpr z)
        obtain ⟨I3, c1, c2, c3, c4, c5, c6, c7⟩ := sp_keep (g := g) (L := L) (x1 := nI (encF (pr rx) n)) (x3 := nI hd) (x4 := nI tap) hE (show s.1.length < 3001 by omega) j4 q1
        have hs3 : HS Z I3 sa n T goal (s.1 ++ [rx], s.2.1 ++ [hd], s.2.2 ++ [tap]) := hs2.put (by omega) (fun _ => ⟨rfl, rfl⟩) o2 o3 hfs c2 c3 c4 c5 c6 c7
        have cl3 : CL Z I3 w h S tx := d2.xw hE hX (fun a ha => c7 a (by omega) (by omega) (by omega) (by omega) (by omega))
        have fr3 : ∀ a, ¬ nowA a → ¬ (a = sa ∨ (sa + 3 ≤ a ∧ a ≤ sa + 6)) → I3 a = I a := fun a h1 h2 => by rw [c7 a (by omega) (by omega) (by omega) (by omega) (by omega), fr2 a h1]
        have e36 : I3 sa 6 = nI (s.1.length + 1) := by rw [c2]; rfl
        have zq : I2 (sa + 6) (nI q).toNatClampNeg = 0 := by rw [cq]; exact hfs.1
        by_cases hl : s.1.length = 3000
        · rw [unf, if_neg hnr, if_pos hl]
          refine ⟨I3, mk _ _ ⟨fun e => absurd e g4, fun _ => ⟨vr, _, I2, L, by rw [er]; exact d1, _, q2, vs, fun _ => ⟨I3, L, c1, fun e => ?_, fun _ => ⟨rfl, rfl⟩⟩, fun e => absurd zq e⟩⟩, cl3, (fun j hj => by cases hj), fr3⟩
          rw [e36, hl] at e
          exact absurd e (by decide)
        · have hsk3 : sok w h S n (s.1 ++ [rx], s.2.1 ++ [hd], s.2.2 ++ [tap]) := hk.put hokx (by omega) hh ht4
          have ith := sp_isThere (g := g) (L := L) (r := rx) hE hs3.1 k2 hn h3 hx100 hs3.2.2.1 hgl h2
          have lt3 : I3 sa 6 < 3001 := by rw [e36]; exact (nI_ltI (b := 3001) (by omega) (by decide)).mpr (by omega)
          by_cases hth : thB n goal rx = true
          · rw [unf, if_neg hnr, if_neg hl, if_pos hth]
            rw [hth] at ith
            have la := sp_latest (g := g) (I := I3) (L := L) (F := s.2.1 ++ [hd]) (j := s.1.length) hE (by omega) e36 (fun j h0 hj => ⟨(hs3.2.2.2.2.2.1 j h0 (by show j < (s.1 ++ [rx]).length; rw [List.length_append, List.length_singleton]; omega)).1, hsk3.2.2.2.2.2.1 j h0 (by show j < (s.1 ++ [rx]).length; rw [List.length_append, List.length_singleton]; omega)⟩)
            refine ⟨I3, mk _ _ ⟨fun e => absurd e g4, fun _ => ⟨vr, _, I2, L, by rw [er]; exact d1, _, q2, vs, fun _ => ⟨I3, L, c1, fun _ => ⟨_, ith, fun e => absurd e (by decide), fun _ => ⟨_, la, rfl, rfl⟩⟩, fun e => absurd lt3 e⟩, fun e => absurd zq e⟩⟩, cl3, fun j hj => ?_, fr3⟩
            have : s.1.length = j := Option.some.inj (Option.some.inj hj)
            subst this
            refine ⟨e36, ?_, hsk3, fun j h0 hj => hs3.2.2.2.2.2.1 j h0 (by show j < (s.1 ++ [rx]).length; rw [List.length_append, List.length_singleton]; omega)⟩
            show (s.1 ++ [rx]).length = _
            rw [List.length_append, List.length_singleton]
          · have hthf : thB n goal rx = false := by cases hx : thB n goal rx with
              | true => exact absurd hx hth
              | false => rfl
            rw [unf, if_neg hnr, if_neg hl, if_neg hth]
            rw [hthf] at ith
            obtain ⟨I1, f1, f2, f3, f4⟩ := ih hd (tap + 1) _ I3 cl3 hs3 hsk3 (by show hd < (s.1 ++ [rx]).length; rw [List.length_append, List.length_singleton]; omega) (by omega) (by omega)
            exact ⟨I1, mk _ _ ⟨fun e => absurd e g4, fun _ => ⟨vr, _, I2, L, by rw [er]; exact d1, _, q2, vs, fun _ => ⟨I3, L, c1, fun _ => ⟨_, ith, fun _ y hy => by rw [hy, nI_1]; exact f1, fun e => absurd rfl e⟩, fun e => absurd lt3 e⟩, fun e => absurd zq e⟩⟩, f2, f3, fun a h1 h2 => by rw [f4 a h1 h2, fr3 a h1 h2]⟩
      · rw [unf, if_pos (memq.mp hmem)]
        obtain ⟨I1, f1, f2, f3, f4⟩ := ih hd (tap + 1) s I2 d2 hs2 hk hh (by omega) (by omega)
        exact ⟨I1, mk _ _ ⟨fun e => absurd e g4, fun _ => ⟨vr, _, I2, L, by rw [er]; exact d1, _, q2, vs, fun e => absurd (by rw [cq] at e; exact e) hnz, fun _ y hy => by rw [hy, nI_1]; exact f1⟩⟩, f2, f3, fun a h1 h2 => by rw [f4 a h1 h2, fr2 a h1]⟩
    · have ht4 : tap = 4 := by omega
      subst ht4
      have unf : bfF w h (S 0) n tt goal (k + 1) hd 4 s = (if hd + 1 < s.1.length then bfF w h (S 0) n tt goal k (hd + 1) 0 s else (none, s)) := by
        show (if 4 < 4 then _ else _) = _
        rw [if_neg (by decide)]
      by_cases hn1 : hd + 1 < s.1.length
      · rw [unf, if_pos hn1]
        obtain ⟨I1, f1, f2, f3, f4⟩ := ih (hd + 1) 0 s I cl hs hk hn1 (by omega) (by omega)
        refine ⟨I1, mk _ _ ⟨fun _ y hy => ?_, fun e => absurd (nI_le (Nat.le_refl 4) (by decide)) e⟩, f2, f3, f4⟩
        rw [hy, nI_1]
        refine wp_X7_seek_65 e1 ⟨fun e => ?_, fun _ => ⟨fun e => absurd ((nI_leI (a := 3001) (by decide) (by omega)).mp e) (by omega), fun _ => f1⟩⟩
        rw [k4] at e
        exact absurd e (nI_ge hn1 (by omega))
      · rw [unf, if_neg hn1]
        refine ⟨I, mk _ _ ⟨fun _ y hy => ?_, fun e => absurd (nI_le (Nat.le_refl 4) (by decide)) e⟩, cl, (fun j hj => by cases hj), fun _ _ _ => rfl⟩
        rw [hy, nI_1]
        refine wp_X7_seek_65 e1 ⟨fun _ => ⟨rfl, rfl⟩, fun e => ?_⟩
        rw [k4] at e
        exact absurd (nI_le (show s.1.length ≤ hd + 1 by omega) (by omega)) e
end CSEEK
