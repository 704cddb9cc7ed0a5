/-! what the calls are made of -/
def nowA (a : Nat) : Prop := (13 ≤ a ∧ a ≤ 15) ∨ (18 ≤ a ∧ a ≤ 41) ∨ a = 67
theorem nA_apart : ∀ j, j < 11 → ∀ f, f < 11 → j ≠ f → nA j ≠ nA f ∧ nA j ≠ nA f + 1 ∧ nA j + 1 ≠ nA f ∧ nA j + 1 ≠ nA f + 1 := by decide
theorem nA_in : ∀ f, f < 11 → (19 ≤ nA f ∧ nA f ≤ 40) ∧ nA f ≠ 39 ∧ nA f + 1 ≠ 39 := by decide
/-- is a pair in the cell p -/
def hasP (S : Nat → List Nat) (p : Int32) : Bool := (S 1).any (fun v => decide (nI (v / 4) = p))
section OPS0
variable {g : GE} {Z : Zs} {I : Nat → Nat → Int32} {L : Nat → Nat → Int64} {w h : Nat} {S : Nat → List Nat} {tx : List TX}
theorem CS.upd {I1 : Nat → Nat → Int32} {f : Nat} {xs : List Nat} (k : CS Z I w h S tx) (hf : f < 11) (hI : IL Z I1 (nA f) (nA f + 1) (cpF w h f) xs) (hr : ∀ a, a ≠ nA f → a ≠ nA f + 1 → I1 a = I a) : CS Z I1 w h (rw1 S f xs) tx := by
  obtain ⟨k0, k1, k2, k3, k4, k5, k6, k7, k8⟩ := k
  obtain ⟨b1, b2, b3⟩ := nA_in f hf
  have e18 : I1 18 = I 18 := hr 18 (by omega) (by omega)
  refine ⟨k0, k1, by rw [e18]; exact k2, by rw [e18]; exact k3, k4, fun j hj => ?_, by rw [e18]; exact k6, k7, fun j t hj => ?_⟩
  · by_cases hjf : j = f
    · subst hjf
      rw [rw1_s]; exact hI
    · rw [rw1_n _ _ hjf]
      obtain ⟨a1, a2, a3, a4⟩ := nA_apart j hj f hf hjf
      exact (k5 j hj).kept (by rw [hr _ a1 a2]) (fun q _ => by rw [hr _ a3 a4])
  · obtain ⟨sc, h1, h2⟩ := k8 j t hj
    exact ⟨sc, h1, h2.kept (fun a h3 h4 => hr a (by omega) (by omega))⟩
theorem sp_isTap (x : Int32) : Cl g 1 mu_X11_isTap [.int x] (Z, I, L) (some (.int (if ¬ x < 0 ∧ x < 4 then 1 else 0))) (Z, I, L) := by
  refine cp_X11_isTap ?_
  refine ⟨fun hx => ⟨?_, rfl⟩, fun hx => ⟨fun hy => ⟨?_, rfl⟩, fun hy => ⟨?_, rfl⟩⟩⟩
  · rw [if_neg (fun e => e.1 hx)]
  · rw [if_neg (fun e => absurd e.2 (Int32.not_lt.mpr hy))]
  · rw [if_pos ⟨hx, Int32.not_le.mp hy⟩]
theorem sp_poseOf {n : Nat} (hn : n < 1000) : Cl g 1 mu_X11_poseOf [.int (nI n)] (Z, I, L) (some (.int (nI (n % 200)))) (Z, I, L) := by
  refine cp_X11_poseOf ⟨?_, rfl⟩
  rw [show nI n - nI n / 200 * 200 = nI (n % 200) from pk_rem (d := 200) (by omega) (by decide) (by decide)]
theorem sp_hasBumped {n : Nat} (hn : n < 1000) : Cl g 1 mu_X11_hasBumped [.int (nI n)] (Z, I, L) (some (.int (b2i (decide (200 ≤ n ∧ n < 400))))) (Z, I, L) := by
  refine cp_X11_hasBumped ?_
  have e1 : (nI n < 200) ↔ n < 200 := nI_ltI (b := 200) (by omega) (by decide)
  have e2 : ((400 : Int32) ≤ nI n) ↔ 400 ≤ n := nI_leI (a := 400) (by decide) (by omega)
  rw [e1, e2]
  refine ⟨fun hx => ⟨?_, rfl⟩, fun hx => ⟨fun hy => ⟨?_, rfl⟩, fun hy => ⟨?_, rfl⟩⟩⟩
  · rw [show decide (200 ≤ n ∧ n < 400) = false by simp; omega]; rfl
  · rw [show decide (200 ≤ n ∧ n < 400) = false by simp; omega]; rfl
  · rw [show decide (200 ≤ n ∧ n < 400) = true by simp; omega]; rfl
theorem hp_run (k : CS Z I w h S tx) (hW : WF w h S tx) (x : Int32) : ∀ (m j : Nat), j + m = (S 1).length → Lp_X8_hasPairIn_2 g 2 18 x (nI j) (Z, I, L) (some (.int (b2i (((S 1).drop j).any (fun v => decide (nI (v / 4) = x)))))) (Z, I, L) := by
  have hil : IL Z I 19 20 6 (S 1) := k.il 1 (by decide)
  have hb := hil.2.2.2.2.2.1
  intro m
  induction m with
  | zero =>
    intro j hj
    have hj : j = (S 1).length := hj
    refine wp_X8_hasPairIn_2 (k.1.k 18 8 (by decide) (by decide)) (k.1.r 18 3 19 (by decide)) (k.1.k 19 2 (by decide) (by decide)) ⟨_, sp_size hil, fun _ => ⟨?_, rfl⟩, fun e => absurd (nI_le (by omega) (by omega)) e⟩
    rw [List.drop_eq_nil_of_le (by omega)]; rfl
  | succ m ih =>
    intro j hj
    have hjl : j < (S 1).length := by omega
    refine wp_X8_hasPairIn_2 (k.1.k 18 8 (by decide) (by decide)) (k.1.r 18 3 19 (by decide)) (k.1.k 19 2 (by decide) (by decide)) ⟨_, sp_size hil, fun e => absurd e (nI_ge hjl (by omega)), fun _ => ⟨_, sp_at hil _, ?_⟩⟩
    rw [atL_n _ (by omega), List.drop_eq_getElem_cons hjl, List.any_cons]
    have eg : (S 1).getD j 0 = (S 1)[j] := by simp [List.getD, List.getElem?_eq_getElem hjl]
    rw [eg]
    obtain ⟨v, hv⟩ : ∃ v, (S 1)[j] = v := ⟨_, rfl⟩
    rw [hv]
    have hm := k.2.1.mul
    have hvl := (hW.2.2.2.1 j v (by rw [List.getElem?_eq_getElem hjl, hv])).1
    have e4 : nI v / 4 = nI (v / 4) := pk_div (d := 4) (by omega) (by decide) (by decide)
    rw [e4]
    refine ⟨fun e y hy => ?_, fun e => ⟨?_, rfl⟩⟩
    · rw [show decide (nI (v / 4) = x) = false by simpa using e, Bool.false_or, hy, nI_1]
      exact ih (j + 1) (by omega)
    · rw [show decide (nI (v / 4) = x) = true by simpa using e, Bool.true_or]; rfl
theorem sp_hasPairIn (k : CS Z I w h S tx) (hW : WF w h S tx) (x : Int32) : Cl g 2 mu_X8_hasPairIn [rf g 18, .int x] (Z, I, L) (some (.int (b2i (hasP S x)))) (Z, I, L) :=
  cp_X8_hasPairIn (k.1.k 18 8 (by decide) (by decide)) (hp_run k hW x (S 1).length 0 (Nat.zero_add _))
/-- Arrays.fill of ints -/
theorem fi_run {a n : Nat} {v : Int32} (ka : KM Z a 13) (hn : Z.2.2.1 a = n) (hb : n < 2 ^ 31) : ∀ (m j : Nat) (I : Nat → Nat → Int32), j + m = n → Lp_J7_fill_53178_5 g 1 a v (nI j) (nI n) (Z, I, L) none (Z, rw1 I a (fun q => if j ≤ q ∧ q < n then v else I a q), L) := by
  intro m
  induction m with
  | zero =>
    intro j I hj
    have hj : j = n := hj
    subst hj
    refine wp_J7_fill_53178_5 ka ⟨fun _ => ⟨rfl, ?_⟩, fun e => absurd (nI_le (Nat.le_refl _) hb) e⟩
    have : rw1 I a (fun q => if j ≤ q ∧ q < j then v else I a q) = I := by
      funext x
      unfold rw1
      split
      · rename_i hx; subst hx; funext q; rw [if_neg (by omega)]
      · rfl
    rw [this]
  | succ m ih =>
    intro j I hj
    refine wp_J7_fill_53178_5 ka ⟨fun e => absurd e (nI_ge (by omega) hb), fun _ => ⟨by rw [hn]; exact vp_in_nI (by omega) hb, fun I2 hI2 y hy => ?_⟩⟩
    rw [hy, nI_1]
    have := ih (j + 1) I2 (by omega)
    have e : rw1 I2 a (fun q => if j + 1 ≤ q ∧ q < n then v else I2 a q) = rw1 I a (fun q => if j ≤ q ∧ q < n then v else I a q) := by
      rw [hI2, nI_clamp (by omega)]
      funext x
      unfold rw1
      split
      · funext q
        simp only [if_true]
        unfold upd
        by_cases hq : q = j
        · subst hq; rw [if_neg (by omega), if_pos rfl, if_pos ⟨by omega, by omega⟩]
        · by_cases h2 : j + 1 ≤ q ∧ q < n
          · rw [if_pos h2, if_pos ⟨by omega, h2.2⟩]
          · rw [if_neg h2, if_neg hq, if_neg (by omega)]
      · rfl
    rw [e] at this
    exact this
theorem sp_fill {a n : Nat} {v : Int32} (ka : KM Z a 13) (hn : Z.2.2.1 a = n) (hb : n < 2 ^ 31) : Cl g 1 mu_J7_fill_53178 [rf g a, .int v] (Z, I, L) none (Z, rw1 I a (fun q => if q < n then v else I a q), L) := by
  refine cp_J7_fill_53178 ka (fun y hy => ?_)
  rw [hy, hn]
  have := fi_run (g := g) (L := L) (v := v) ka hn hb n 0 I (Nat.zero_add _)
  simp only [Nat.zero_le, true_and] at this
  exact this
theorem sp_forget (k : CS Z I w h S tx) (hN : Z.2.2.1 67 = 64 * (w * h)) : Cl g 2 mu_X3_forget [rf g 66] (Z, I, L) none (Z, rw1 I 67 (fun q => if q < 64 * (w * h) then -1 else I 67 q), L) := by
  have hm := k.2.1.mul
  exact cp_X3_forget (k.1.k 66 3 (by decide) (by decide)) (k.1.r 66 2 67 (by decide)) (k.1.k 67 13 (by decide) (by decide)) ⟨_, L, sp_fill (k.1.k 67 13 (by decide) (by decide)) hN (by omega), rfl, rfl⟩
/-- an empty cache fits any state -/
theorem KC.empty {I1 : Nat → Nat → Int32} {S1 : Nat → List Nat} {tx1 : List TX} (hN : Z.2.2.1 67 = 64 * (w * h)) (he : I1 67 = fun q => if q < 64 * (w * h) then -1 else I 67 q) : KC Z I1 w h S1 tx1 := by
  refine ⟨hN, fun hb p tap h1 h2 h3 => Or.inl ?_⟩
  rw [he]
  have h4 : hb * (4 * (w * h)) ≤ 3 * (4 * (w * h)) := Nat.mul_le_mul_right _ (by omega)
  exact if_pos (by omega)
theorem sp_forgetSteps (k : CS Z I w h S tx) : ∃ I1, Cl g 3 mu_X8_forgetSteps [rf g 18] (Z, I, L) none (Z, I1, L) ∧ CS Z I1 w h (rw1 (rw1 S 4 []) 5 []) tx ∧ ∀ a, a ≠ 25 → a ≠ 27 → I1 a = I a := by
  obtain ⟨I1, c1, c2, c3⟩ := sp_cutTo (g := g) (L := L) (k.il 4 (by decide)) 0
  have k1 : CS Z I1 w h (rw1 S 4 []) tx := k.upd (by decide) c2 (fun a h1 _ => c3 a h1)
  obtain ⟨I2, d1, d2, d3⟩ := sp_cutTo (g := g) (L := L) (k1.il 5 (by decide)) 0
  have k2 : CS Z I2 w h (rw1 (rw1 S 4 []) 5 []) tx := k1.upd (by decide) d2 (fun a h1 _ => d3 a h1)
  exact ⟨I2, cp_X8_forgetSteps (k.1.k 18 8 (by decide) (by decide)) (k.1.r 18 6 25 (by decide)) (k.1.k 25 2 (by decide) (by decide)) (k.1.r 18 7 27 (by decide)) (k.1.k 27 2 (by decide) (by decide)) ⟨I1, L, c1, I2, L, d1, rfl, rfl⟩, k2, fun a h1 h2 => (d3 a h2).trans (c3 a h1)⟩
/-- the steps kept: the latest 30 -/
def keepL (xs : List Nat) (v : Nat) : List Nat := (if xs.length < 30 then xs else xs.drop 1) ++ [v]
theorem sp_keepStep (k : CS Z I w h S tx) (hW : WF w h S tx) {q : Nat} (hq : q < (S 1).length) : ∃ I1, Cl g 3 mu_X8_keepStep [rf g 18, .int (nI q)] (Z, I, L) none (Z, I1, L) ∧ CS Z I1 w h (rw1 (rw1 S 4 (keepL (S 4) q)) 5 (keepL (S 5) ((S 1).getD q 0))) tx ∧ ∀ a, a ≠ 25 → a ≠ 26 → a ≠ 27 → a ≠ 28 → I1 a = I a := by
  have h4 := (k.il 4 (by decide)).2.2.2.2.2.1
  have h4 : (S 4).length ≤ 30 := h4
  have h45 : (S 4).length = (S 5).length := hW.2.2.2.2.2.2.1
  have h1 : (S 1).length ≤ 6 := (k.il 1 (by decide)).2.2.2.2.2.1
  have K18 := k.1.k 18 8 (by decide) (by decide)
  have K25 := k.1.k 25 2 (by decide) (by decide)
  have K27 := k.1.k 27 2 (by decide) (by decide)
  have K19 := k.1.k 19 2 (by decide) (by decide)
  -- from a state whose steps are fewer than 30
  have main : ∀ (J : Nat → Nat → Int32) (T : Nat → List Nat), CS Z J w h T tx → T 1 = S 1 → (T 4).length < 30 → (T 5).length < 30 → (∀ f, f ≠ 4 → f ≠ 5 → T f = S f) → ∃ J1 J2, Cl g 1 mu_X2_add [rf g 25, .int (nI q)] (Z, J, L) none (Z, J1, L) ∧ Cl g 1 mu_X2_at [rf g 19, .int (nI q)] (Z, J1, L) (some (.int (nI ((S 1).getD q 0)))) (Z, J1, L) ∧ Cl g 1 mu_X2_add [rf g 27, .int (nI ((S 1).getD q 0))] (Z, J1, L) none (Z, J2, L) ∧ CS Z J2 w h (rw1 (rw1 T 4 (T 4 ++ [q])) 5 (T 5 ++ [(S 1).getD q 0])) tx ∧ ∀ a, a ≠ 25 → a ≠ 26 → a ≠ 27 → a ≠ 28 → J2 a = J a := by
    intro J T kT e1 e4 e5 _
    obtain ⟨J1, c1, c2, c3⟩ := sp_add (g := g) (L := L) (kT.il 4 (by decide)) q
    rw [if_pos (show (T 4).length < cpF w h 4 from e4)] at c2
    have k1 : CS Z J1 w h (rw1 T 4 (T 4 ++ [q])) tx := kT.upd (by decide) c2 c3
    have ca := sp_at (g := g) (L := L) (k1.il 1 (by decide)) (nI q)
    rw [rw1_n _ _ (by decide), atL_n _ (by omega), e1] at ca
    obtain ⟨J2, d1, d2, d3⟩ := sp_add (g := g) (L := L) (k1.il 5 (by decide)) ((S 1).getD q 0)
    rw [rw1_n _ _ (by decide), if_pos (show (T 5).length < cpF w h 5 from e5)] at d2
    have k2 := k1.upd (by decide) d2 d3
    exact ⟨J1, J2, c1, ca, d1, k2, fun a h1 h2 h3 h4 => (d3 a h3 h4).trans (c3 a h1 h2)⟩
  by_cases hl : (S 4).length < 30
  · obtain ⟨J1, J2, m1, m2, m3, m4, m5⟩ := main I S k rfl hl (by omega) (fun _ _ _ => rfl)
    have ek : keepL (S 4) q = S 4 ++ [q] := by unfold keepL; rw [if_pos hl]
    have ek5 : keepL (S 5) ((S 1).getD q 0) = S 5 ++ [(S 1).getD q 0] := by unfold keepL; rw [if_pos (by omega)]
    rw [ek, ek5]
    refine ⟨J2, cp_X8_keepStep K18 (k.1.r 18 6 25 (by decide)) K25 (k.1.r 18 7 27 (by decide)) K27 (k.1.r 18 3 19 (by decide)) K19 ⟨_, sp_size (k.il 4 (by decide)), fun _ => ⟨J1, L, m1, _, m2, J2, L, m3, rfl, rfl⟩, fun e => absurd ((nI_ltI (b := 30) (by omega) (by decide)).mpr hl) e⟩, m4, m5⟩
  · obtain ⟨D1, c1, c2, c3⟩ := sp_dropFirst (g := g) (L := L) (k.il 4 (by decide))
    have k1 := k.upd (by decide) c2 c3
    obtain ⟨D2, d1, d2, d3⟩ := sp_dropFirst (g := g) (L := L) (k1.il 5 (by decide))
    rw [rw1_n _ _ (by decide)] at d2
    have k2 := k1.upd (by decide) d2 d3
    obtain ⟨J1, J2, m1, m2, m3, m4, m5⟩ := main D2 _ k2 (by rw [rw1_n _ _ (by decide), rw1_n _ _ (by decide)]) (by rw [rw1_n _ _ (by decide), rw1_s, List.length_drop]; omega) (by rw [rw1_s, List.length_drop]; omega) (fun f h1 h2 => by rw [rw1_n _ _ h2, rw1_n _ _ h1])
    have eS : rw1 (rw1 (rw1 (rw1 S 4 ((S 4).drop 1)) 5 ((S 5).drop 1)) 4 ((rw1 (rw1 S 4 ((S 4).drop 1)) 5 ((S 5).drop 1)) 4 ++ [q])) 5 ((rw1 (rw1 S 4 ((S 4).drop 1)) 5 ((S 5).drop 1)) 5 ++ [(S 1).getD q 0]) = rw1 (rw1 S 4 (keepL (S 4) q)) 5 (keepL (S 5) ((S 1).getD q 0)) := by
      rw [rw1_s, rw1_n _ _ (show (4 : Nat) ≠ 5 by decide), rw1_s]
      unfold keepL
      rw [if_neg hl, if_neg (by omega)]
      funext f
      unfold rw1
      by_cases h5 : f = 5
      · simp [h5]
      · by_cases h4 : f = 4
        · simp [h4]
        · simp [h5, h4]
    rw [eS] at m4
    refine ⟨J2, cp_X8_keepStep K18 (k.1.r 18 6 25 (by decide)) K25 (k.1.r 18 7 27 (by decide)) K27 (k.1.r 18 3 19 (by decide)) K19 ⟨_, sp_size (k.il 4 (by decide)), fun e => absurd ((nI_ltI (b := 30) (by omega) (by decide)).mp e) hl, fun _ => ⟨D1, L, c1, D2, L, d1, J1, L, m1, _, m2, J2, L, m3, rfl, rfl⟩⟩, m4, fun a h1 h2 h3 h4 => (m5 a h1 h2 h3 h4).trans ((d3 a h3 h4).trans (c3 a h1 h2))⟩
end OPS0
