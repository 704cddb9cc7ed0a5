/-! wed(): the class's askings -/
def WC (I : Nat → Nat → Int32) (A B : Nat → Nat → Int32) (n1 n2 : Nat) (s : WT) : Prop := I 68 7 = nI n1 ∧ I 68 8 = nI n2 ∧ (∀ k, k < 36 → I 71 k = b2i (s.1 k)) ∧ (∀ i, i < 6 → I 72 i = oI (s.2.1 i)) ∧ (∀ o, o < 6 → I 73 o = oI (s.2.2 o)) ∧ ∀ i o, i < n1 → o < n2 → I 69 (6 * i + o) = A i o ∧ I 70 (6 * o + i) = B o i
theorem sub_lt0 {x y : Int32} (hx : rg x) (hy : rg y) : (x - y < 0 ↔ x < y) ∧ (x - y = 0 ↔ x = y) := by
  have e : (x - y).toInt = x.toInt - y.toInt := by
    rw [Int32.toInt_sub]
    obtain ⟨h1, h2⟩ := hx
    obtain ⟨h3, h4⟩ := hy
    exact Int.bmod_eq_of_le (by omega) (by omega)
  constructor
  · rw [Int32.lt_iff_toInt_lt, Int32.lt_iff_toInt_lt, e, show (0 : Int32).toInt = 0 by decide]; omega
  · rw [← Int32.toInt_inj, ← Int32.toInt_inj, e, show (0 : Int32).toInt = 0 by decide]; omega
def nbF (A : Nat → Nat → Int32) (i j : Nat) (b : Option Nat) : Option Nat := match b with
  | none => some j
  | some o => if A i j ≤ A i o then some o else some j
theorem bs_nb {Q : Nat → Bool} {A : Nat → Nat → Int32} {i d j : Nat} {b : Option Nat} (e : Q (6 * i + j) = false) : bsF Q A i (d + 1) j b = bsF Q A i d (j + 1) (nbF A i j b) := by
  show bsF Q A i d (j + 1) (if Q (6 * i + j) then b else _) = _
  rw [if_neg (by rw [e]; decide)]
  cases b <;> rfl
theorem nb_le {A : Nat → Nat → Int32} {i j o : Nat} (e : A i j ≤ A i o) : nbF A i j (some o) = some o := if_pos e
theorem nb_gt {A : Nat → Nat → Int32} {i j o : Nat} (e : ¬ A i j ≤ A i o) : nbF A i j (some o) = some j := if_neg e
section CWED2
variable {g : GE} {Z : Zs} {I : Nat → Nat → Int32} {L : Nat → Nat → Int64} {A B : Nat → Nat → Int32} {n1 n2 : Nat} {s : WT}
theorem oI_lt {b : Option Nat} (hb : ∀ o, b = some o → o < 2 ^ 31) : oI b = -1 ↔ b = none := oI_no hb
theorem lm_run (hS : Sh Z) (hC : WC I A B n1 n2 s) {i : Nat} (hi : i < n1) (hn1 : n1 ≤ 6) (hn2 : n2 ≤ 6) : ∀ (d j : Nat) (b : Option Nat), j + d = n2 → (∀ o, b = some o → o < n2) → Lp_X10_likedMost_4 g 1 68 (nI i) (oI b) (nI j) (Z, I, L) (some (.int (oI (bsF s.1 A i d j b)))) (Z, I, L) := by
  obtain ⟨e7, e8, hQ, hK, hP, hA⟩ := hC
  have mk := fun (u2 u3 : Int32) (r : Option Value) (M' : Mem) => @wp_X10_likedMost_4 g Z I L r M' 68 (nI i) u2 u3 71 69 (hS.k 68 10 (by decide) (by decide)) (hS.r 68 4 71 (by decide)) (hS.k 71 15 (by decide) (by decide)) (hS.r 68 2 69 (by decide)) (hS.k 69 13 (by decide) (by decide))
  intro d
  induction d with
  | zero =>
    intro j b hj hb
    have hj : j = n2 := hj
    subst hj
    refine mk _ _ _ _ ⟨fun _ => ⟨rfl, rfl⟩, fun e => ?_⟩
    rw [e8] at e
    exact absurd (nI_le (Nat.le_refl _) (by omega)) e
  | succ d ih =>
    intro j b hj hb
    have hb' : ∀ o, b = some o → o < 2 ^ 31 := fun o ho => by have := hb o ho; omega
    refine mk _ _ _ _ ⟨fun e => ?_, fun _ => ?_⟩
    · rw [e8] at e
      exact absurd e (nI_ge (by omega) (by omega))
    · rw [e6, nI_clamp (by omega), hQ _ (by omega)]
      refine ⟨v36 hS (by simp) (by omega), fun e y hy => ?_, fun e => ?_⟩
      · have hq : s.1 (6 * i + j) = true := by cases hx : s.1 (6 * i + j) with
          | true => rfl
          | false => rw [hx] at e; exact absurd rfl e
        rw [hy, nI_1, show bsF s.1 A i (d + 1) j b = bsF s.1 A i d (j + 1) b from by
          show bsF s.1 A i d (j + 1) (if s.1 (6 * i + j) then b else _) = _
          rw [if_pos hq]]
        exact ih (j + 1) b (by omega) hb
      · rw [b2i_0] at e
        rw [bs_nb e]
        cases b with
        | none => exact ⟨fun _ y hy => by rw [hy, nI_1]; exact ih (j + 1) (some j) (by omega) (fun o ho => by have := Option.some.inj ho; omega), fun e => absurd rfl e⟩
        | some o =>
          have ho := hb o rfl
          refine ⟨fun e => absurd e (nI_ne_m1 (by omega)), fun _ => ?_⟩
          rw [show nI i * 6 + oI (some o) = nI (6 * i + o) from e6 i o, nI_clamp (by omega), (hA i j hi (by omega)).1, (hA i o hi ho).1]
          refine ⟨v36 hS (by simp) (by omega), v36 hS (by simp) (by omega), fun e y hy => ?_, fun e y hy => ?_⟩
          · rw [hy, nI_1, nb_le e]; exact ih (j + 1) (some o) (by omega) hb
          · rw [hy, nI_1, nb_gt e]; exact ih (j + 1) (some j) (by omega) (fun o ho => by have := Option.some.inj ho; omega)
theorem sp_likedMost (hS : Sh Z) (hC : WC I A B n1 n2 s) {i : Nat} (hi : i < n1) (hn1 : n1 ≤ 6) (hn2 : n2 ≤ 6) : Cl g 1 mu_X10_likedMost [rf g 68, .int (nI i)] (Z, I, L) (some (.int (oI (bsF s.1 A i n2 0 none)))) (Z, I, L) :=
  cp_X10_likedMost (hS.k 68 10 (by decide) (by decide)) (fun y hy => by rw [hy]; exact lm_run hS hC hi hn1 hn2 n2 0 none (Nat.zero_add _) (fun o ho => by cases ho))
theorem up_oI {f : Nat → Int32} {q : Nat → Option Nat} {n j : Nat} {o : Option Nat} (hf : ∀ i, i < n → f i = oI (q i)) : ∀ i, i < n → upd f j (oI o) i = oI (rw1 q j o i) := fun i hi => by
  unfold upd
  by_cases hij : i = j
  · rw [if_pos hij, hij, rw1_s]
  · rw [if_neg hij, rw1_n _ _ hij]; exact hf i hi
/-- what is asked answers -/
theorem sp_answer (hS : Sh Z) {i o : Nat} (hC : WC I A B n1 n2 (rw1 s.1 (6 * i + o) true, s.2.1, s.2.2)) (hok : wok n1 n2 s) (hi : i < n1) (ho : o < n2) (hn1 : n1 ≤ 6) (hn2 : n2 ≤ 6) (hB : ∀ o i, o < n2 → i < n1 → rg (B o i)) (hn : s.1 (6 * i + o) = false) : ∃ I1, Cl g 1 mu_X10_answer [rf g 68, .int (nI i), .int (nI o)] (Z, I, L) none (Z, I1, L) ∧ WC I1 A B n1 n2 (ansF B s i o) ∧ ∀ a, a ≠ 72 → a ≠ 73 → I1 a = I a := by
  obtain ⟨e7, e8, hQ, hK, hP, hA⟩ := id hC
  have cp := fun (r : Option Value) (M' : Mem) => @cp_X10_answer g Z I L r M' 68 (nI i) (nI o) 73 72 70 (hS.k 68 10 (by decide) (by decide)) (hS.r 68 6 73 (by decide)) (hS.k 73 13 (by decide) (by decide)) (hS.r 68 5 72 (by decide)) (hS.k 72 13 (by decide) (by decide)) (hS.r 68 3 70 (by decide)) (hS.k 70 13 (by decide) (by decide))
  have ci : (nI i).toNatClampNeg = i := nI_clamp (by omega)
  have co : (nI o).toNatClampNeg = o := nI_clamp (by omega)
  have eP : I 73 (nI o).toNatClampNeg = oI (s.2.2 o) := by rw [co]; exact hP o (by omega)
  cases hp : s.2.2 o with
  | none =>
    have ea : ansF B s i o = (rw1 s.1 (6 * i + o) true, rw1 s.2.1 i (some o), rw1 s.2.2 o (some i)) := by unfold ansF; rw [hp]
    rw [ea]
    refine ⟨rw1 (rw1 I 73 (upd (I 73) o (oI (some i)))) 72 (upd (I 72) i (oI (some o))), cp _ _ ⟨v6 hS (by simp) (by omega), fun y hy => ⟨fun _ => ⟨v6 hS (by simp) (by omega), fun I4 h4 => ⟨v6 hS (by simp) (by omega), fun I6 h6 => ⟨rfl, ?_⟩⟩⟩, fun e => absurd ?_ e⟩⟩, ⟨?_, ?_, ?_, ?_, ?_, ?_⟩, fun a h2 h3 => by rw [rw1_n _ _ h2, rw1_n _ _ h3]⟩
    · rw [h6, h4, ci, co, rw1_n _ _ (show (72 : Nat) ≠ 73 by decide)]; rfl
    · rw [hy, eP, hp]; rfl
    · rw [rw1_n _ _ (by decide), rw1_n _ _ (by decide)]; exact e7
    · rw [rw1_n _ _ (by decide), rw1_n _ _ (by decide)]; exact e8
    · rw [rw1_n _ _ (by decide), rw1_n _ _ (by decide)]; exact hQ
    · rw [rw1_s]; exact up_oI hK
    · rw [rw1_n _ _ (by decide), rw1_s]; exact up_oI hP
    · rw [rw1_n _ _ (by decide), rw1_n _ _ (by decide), rw1_n _ _ (by decide), rw1_n _ _ (by decide)]; exact hA
  | some rv =>
    obtain ⟨hrv, hrq⟩ := hok.2 o rv hp
    have hne : rv ≠ i := fun z => by rw [z, hn] at hrq; cases hrq
    have ea : ansF B s i o = if refB B i o rv then (rw1 s.1 (6 * i + o) true, s.2.1, s.2.2) else (rw1 s.1 (6 * i + o) true, rw1 (rw1 s.2.1 rv none) i (some o), rw1 s.2.2 o (some i)) := by unfold ansF; rw [hp]
    have eP' : I 73 (nI o).toNatClampNeg = nI rv := by rw [eP, hp]; rfl
    have cr : (nI rv).toNatClampNeg = rv := nI_clamp (by omega)
    obtain ⟨s1, s2⟩ := sub_lt0 (hB o i ho hi) (hB o rv ho hrv)
    have acc : ∀ (r : Option Value) (M' : Mem), r = none → M' = ((Z, rw1 (rw1 (rw1 I 72 (upd (I 72) rv (oI none))) 73 (upd (I 73) o (oI (some i)))) 72 (upd (upd (I 72) rv (oI none)) i (oI (some o))), L) : Mem) → vp_in (nI rv) (Z.2.2.1 72) ∧ (∀ I11 : Nat → Nat → Int32, I11 = rw1 I 72 (upd (I 72) (nI rv).toNatClampNeg (-1)) → (vp_in (nI o) (Z.2.2.1 73) ∧ (∀ I13 : Nat → Nat → Int32, I13 = rw1 I11 73 (upd (I11 73) (nI o).toNatClampNeg (nI i)) → (vp_in (nI i) (Z.2.2.1 72) ∧ (∀ I15 : Nat → Nat → Int32, I15 = rw1 I13 72 (upd (I13 72) (nI i).toNatClampNeg (nI o)) → (r = none ∧ M' = ((Z, I15, L) : Mem))))))) := fun r M' hr hM => by
      refine ⟨v6 hS (by simp) (by omega), fun I11 h11 => ⟨v6 hS (by simp) (by omega), fun I13 h13 => ⟨v6 hS (by simp) (by omega), fun I15 h15 => ⟨hr, ?_⟩⟩⟩⟩
      rw [hM, h15, h13, h11, ci, co, cr]
      rw [rw1_n _ _ (show (72 : Nat) ≠ 73 by decide), rw1_s, rw1_n _ _ (show (73 : Nat) ≠ 72 by decide)]; rfl
    have accW : refB B i o rv = false → WC (rw1 (rw1 (rw1 I 72 (upd (I 72) rv (oI none))) 73 (upd (I 73) o (oI (some i)))) 72 (upd (upd (I 72) rv (oI none)) i (oI (some o)))) A B n1 n2 (ansF B s i o) := fun hr => by
      rw [ea, hr]
      refine ⟨?_, ?_, ?_, ?_, ?_, ?_⟩
      · rw [rw1_n _ _ (by decide), rw1_n _ _ (by decide), rw1_n _ _ (by decide)]; exact e7
      · rw [rw1_n _ _ (by decide), rw1_n _ _ (by decide), rw1_n _ _ (by decide)]; exact e8
      · rw [rw1_n _ _ (by decide), rw1_n _ _ (by decide), rw1_n _ _ (by decide)]; exact hQ
      · rw [rw1_s]; exact up_oI (up_oI hK)
      · rw [rw1_n _ _ (by decide), rw1_s]; exact up_oI hP
      · rw [rw1_n _ _ (by decide), rw1_n _ _ (by decide), rw1_n _ _ (by decide), rw1_n _ _ (by decide), rw1_n _ _ (by decide), rw1_n _ _ (by decide)]; exact hA
    have fr : ∀ a, a ≠ 72 → a ≠ 73 → (rw1 (rw1 (rw1 I 72 (upd (I 72) rv (oI none))) 73 (upd (I 73) o (oI (some i)))) 72 (upd (upd (I 72) rv (oI none)) i (oI (some o)))) a = I a := fun a h2 h3 => by rw [rw1_n _ _ h2, rw1_n _ _ h3, rw1_n _ _ h2]
    have eB1 : I 70 (nI o * 6 + nI i).toNatClampNeg = B o i := by rw [e6, nI_clamp (by omega)]; exact (hA i o hi ho).2
    have eB2 : I 70 (nI o * 6 + nI rv).toNatClampNeg = B o rv := by rw [e6, nI_clamp (by omega)]; exact (hA rv o hrv ho).2
    have in1 : vp_in (nI o * 6 + nI i) (Z.2.2.1 70) := by rw [e6]; exact v36 hS (by simp) (by omega)
    have in2 : vp_in (nI o * 6 + nI rv) (Z.2.2.1 70) := by rw [e6]; exact v36 hS (by simp) (by omega)
    cases hr : refB B i o rv with
    | true =>
      rw [show ansF B s i o = (rw1 s.1 (6 * i + o) true, s.2.1, s.2.2) from by rw [ea, hr]; rfl]
      refine ⟨I, cp _ _ ⟨v6 hS (by simp) (by omega), fun y hy => ?_⟩, hC, fun _ _ _ => rfl⟩
      rw [eP'] at hy
      rw [hy]
      refine ⟨fun e => absurd e (nI_ne_m1 (by omega)), fun _ => ⟨in1, in2, fun y9 h9 => ?_⟩⟩
      rw [eB1, eB2] at h9
      rw [h9, s1, s2]
      refine ⟨fun _ => ⟨rfl, rfl⟩, fun n9 => ⟨fun n0 => ?_, fun z0 => ⟨fun hle => ?_, fun _ => ⟨rfl, rfl⟩⟩⟩⟩
      · exfalso
        unfold refB at hr
        rw [decide_eq_false n9, decide_eq_false n0] at hr
        cases hr
      · exfalso
        rw [nI_leI (by omega) (by omega)] at hle
        unfold refB at hr
        rw [decide_eq_false n9, decide_eq_true z0, decide_eq_false (show ¬ rv < i by omega)] at hr
        cases hr
    | false =>
      refine ⟨_, cp none _ ⟨v6 hS (by simp) (by omega), fun y hy => ?_⟩, accW hr, fr⟩
      rw [eP'] at hy
      rw [hy]
      refine ⟨fun e => absurd e (nI_ne_m1 (by omega)), fun _ => ⟨in1, in2, fun y9 h9 => ?_⟩⟩
      rw [eB1, eB2] at h9
      rw [h9, s1, s2]
      unfold refB at hr
      rw [Bool.or_eq_false_iff] at hr
      obtain ⟨hr1, hr2⟩ := hr
      refine ⟨fun e => absurd e (of_decide_eq_false hr1), fun _ => ⟨fun _ => acc _ _ rfl rfl, fun z0 => ⟨fun _ => acc _ _ rfl rfl, fun hle => ?_⟩⟩⟩
      exfalso
      rw [decide_eq_true z0, Bool.true_and] at hr2
      have := of_decide_eq_false hr2
      rw [nI_leI (by omega) (by omega)] at hle
      omega
theorem oa_run (hS : Sh Z) (hC : WC I A B n1 n2 s) (hok : wok n1 n2 s) (hn1 : n1 ≤ 6) (hn2 : n2 ≤ 6) (hB : ∀ o i, o < n2 → i < n1 → rg (B o i)) : ∀ (d i : Nat), i + d = n1 → ∃ I1, Lp_X10_oneAsks_2 g 2 68 (nI i) (Z, I, L) none (Z, I1, L) ∧ WC I1 A B n1 n2 (oneF A B n2 s d i) ∧ ∀ a, a ≠ 71 → a ≠ 72 → a ≠ 73 → I1 a = I a := by
  obtain ⟨e7, e8, hQ, hK, hP, hA⟩ := id hC
  have mk := fun (u1 : Int32) (r : Option Value) (M' : Mem) => @wp_X10_oneAsks_2 g Z I L r M' 68 u1 72 71 (hS.k 68 10 (by decide) (by decide)) (hS.r 68 5 72 (by decide)) (hS.k 72 13 (by decide) (by decide)) (hS.r 68 4 71 (by decide)) (hS.k 71 15 (by decide) (by decide))
  intro d
  induction d with
  | zero =>
    intro i hi
    refine ⟨I, mk _ _ _ ⟨fun _ => ⟨rfl, rfl⟩, fun e => ?_⟩, hC, fun _ _ _ _ => rfl⟩
    rw [e7] at e
    exact absurd (nI_le (show n1 ≤ i by omega) (by omega)) e
  | succ d ih =>
    intro i hi
    have hgo : I 68 7 ≤ nI i → False := fun e => by
      rw [e7] at e
      exact absurd e (nI_ge (show i < n1 by omega) (by omega))
    have eK : I 72 (nI i).toNatClampNeg = oI (s.2.1 i) := by rw [nI_clamp (by omega)]; exact hK i (by omega)
    have kb : ∀ o, s.2.1 i = some o → o < 2 ^ 31 := fun o ho => by have := hok.1 i o ho; omega
    have bb : ∀ o, bsF s.1 A i n2 0 none = some o → o < 2 ^ 31 := fun o ho => by have := (bs_ok ho).1; omega
    have lm := sp_likedMost (g := g) (L := L) hS hC (i := i) (by omega) hn1 hn2
    obtain ⟨I1, c1, c2, c3⟩ := ih (i + 1) (by omega)
    cases hk : s.2.1 i with
    | some o =>
      rw [one_skip (Or.inl (by rw [hk]; rfl))]
      refine ⟨I1, mk _ _ _ ⟨fun e => (hgo e).elim, fun _ => ⟨v6 hS (by simp) (by omega), fun _ y hy => ⟨fun _ y3 h3 => by rw [h3, nI_1]; exact c1, fun e => absurd hy e⟩, fun e => ?_⟩⟩, c2, c3⟩
      rw [eK, oI_no kb, hk] at e
      cases e
    | none =>
      have hkn : I 72 (nI i).toNatClampNeg = -1 := by rw [eK, hk]; rfl
      cases hb : bsF s.1 A i n2 0 none with
      | none =>
        rw [one_skip (Or.inr hb)]
        rw [hb] at lm
        exact ⟨I1, mk _ _ _ ⟨fun e => (hgo e).elim, fun _ => ⟨v6 hS (by simp) (by omega), fun e => absurd hkn e, fun _ => ⟨_, lm, fun _ y hy => by rw [hy, nI_1]; exact c1, fun e => absurd rfl e⟩⟩⟩, c2, c3⟩
      | some o =>
        rw [one_do hk hb]
        rw [hb] at lm
        obtain ⟨ho, hq⟩ := bs_ok hb
        have hC' : WC (rw1 I 71 (upd (I 71) (6 * i + o) (b2i true))) A B n1 n2 (rw1 s.1 (6 * i + o) true, s.2.1, s.2.2) := by
          refine ⟨?_, ?_, fun k hk => ?_, ?_, ?_, ?_⟩
          · rw [rw1_n _ _ (by decide)]; exact e7
          · rw [rw1_n _ _ (by decide)]; exact e8
          · rw [rw1_s]
            unfold upd
            by_cases he : k = 6 * i + o
            · rw [if_pos he]; show _ = b2i (rw1 s.1 (6 * i + o) true k); rw [he, rw1_s]
            · rw [if_neg he]; show _ = b2i (rw1 s.1 (6 * i + o) true k); rw [rw1_n _ _ he]; exact hQ k hk
          · rw [rw1_n _ _ (by decide)]; exact hK
          · rw [rw1_n _ _ (by decide)]; exact hP
          · rw [rw1_n _ _ (by decide), rw1_n _ _ (by decide)]; exact hA
        obtain ⟨I2, d1, d2, d3⟩ := sp_answer (g := g) (L := L) hS hC' hok (by omega) ho hn1 hn2 hB hq
        refine ⟨I2, mk _ _ _ ⟨fun e => (hgo e).elim, fun _ => ⟨v6 hS (by simp) (by omega), fun e => absurd hkn e, fun _ => ⟨_, lm, fun e => absurd e (nI_ne_m1 (by omega)), fun _ => ?_⟩⟩⟩, d2, fun a h1 h2 h3 => by rw [d3 a h2 h3, rw1_n _ _ h1]⟩
        rw [show nI i * 6 + oI (some o) = nI (6 * i + o) from e6 i o, nI_clamp (by omega)]
        refine ⟨v36 hS (by simp) (by omega), fun I13 h13 => ⟨I2, L, ?_, rfl, rfl⟩⟩
        rw [show vp_nar .boolean (1 : Int32) = b2i true from nar_b true] at h13
        rw [h13]
        exact d1
theorem co_75 (hS : Sh Z) {side rider : Nat} (hs : side < 2) (hr : rider < 6) (hn1 : n1 ≤ 6) (hn2 : n2 ≤ 6) (hB : ∀ o i, o < n2 → i < n1 → rg (B o i)) : ∀ (d j : Nat) (s : WT) (I : Nat → Nat → Int32), j + d = 36 → WC I A B n1 n2 s → wok n1 n2 s → ∃ I1, Lp_X10_carrierOf_75 g 6 68 (nI rider) (nI side) (nI j) (Z, I, L) (some (.int (oI (if side = 0 then (itF A B n1 n2 d s).2.1 rider else (itF A B n1 n2 d s).2.2 rider)))) (Z, I1, L) ∧ ∀ a, a ≠ 71 → a ≠ 72 → a ≠ 73 → I1 a = I a := by
  intro d
  induction d with
  | zero =>
    intro j s I hj hC hok
    have hj : j = 36 := hj
    subst hj
    obtain ⟨e7, e8, hQ, hK, hP, hA⟩ := id hC
    refine ⟨I, wp_X10_carrierOf_75 (hS.k 68 10 (by decide) (by decide)) (hS.r 68 6 73 (by decide)) (hS.k 73 13 (by decide) (by decide)) (hS.r 68 5 72 (by decide)) (hS.k 72 13 (by decide) (by decide)) ⟨fun _ => ⟨fun e => absurd e (nI_pos (by omega)), fun _ => ⟨fun _ => ⟨fun e => ⟨v6 hS (by simp) hr, ?_, rfl⟩, fun e => ⟨v6 hS (by simp) hr, ?_, rfl⟩⟩, fun e => absurd ((nI_ltI (b := 6) (by omega) (by decide)).mpr hr) e⟩⟩, fun e => absurd (nI_le (Nat.le_refl 36) (by decide)) e⟩, fun _ _ _ _ => rfl⟩
    · rw [if_neg (fun z => e (by rw [z]; rfl)), nI_clamp (by omega), hP rider hr]; rfl
    · rw [if_pos ((nI_eq (b := 0) (by omega) (by decide)).mp e), nI_clamp (by omega), hK rider hr]; rfl
  | succ d ih =>
    intro j s I hj hC hok
    obtain ⟨I2, a1, a2, a3⟩ := oa_run (g := g) (L := L) hS hC hok hn1 hn2 hB n1 0 (Nat.zero_add _)
    obtain ⟨I1, b1, b2⟩ := ih (j + 1) _ I2 (by omega) a2 (wok_one hn1 hn2 hok n1 0 (Nat.zero_add _))
    refine ⟨I1, wp_X10_carrierOf_75 (hS.k 68 10 (by decide) (by decide)) (hS.r 68 6 73 (by decide)) (hS.k 73 13 (by decide) (by decide)) (hS.r 68 5 72 (by decide)) (hS.k 72 13 (by decide) (by decide)) ⟨fun e => absurd ((nI_leI (a := 36) (by decide) (by omega)).mp e) (by omega), fun _ => ⟨I2, L, cp_X10_oneAsks (hS.k 68 10 (by decide) (by decide)) a1, fun y hy => by rw [hy, nI_1]; exact b1⟩⟩, fun a h1 h2 h3 => by rw [b2 a h1 h2 h3, a3 a h1 h2 h3]⟩
/-- all is forgotten ahead of the askings -/
theorem bw_run (hS : Sh Z) : ∀ (d j : Nat) (I : Nat → Nat → Int32), j + d = 36 → (∀ k, k < j → I 71 k = 0) → ∃ I1, Lp_X10_begin_18 g 2 68 (nI j) (Z, I, L) none (Z, I1, L) ∧ (∀ k, k < 36 → I1 71 k = 0) ∧ ∀ a, a ≠ 71 → I1 a = I a := by
  intro d
  induction d with
  | zero =>
    intro j I hj hq
    have hj : j = 36 := hj
    subst hj
    exact ⟨I, wp_X10_begin_18 (hS.k 68 10 (by decide) (by decide)) (hS.r 68 4 71 (by decide)) (hS.k 71 15 (by decide) (by decide)) ⟨fun _ => ⟨rfl, rfl⟩, fun e => absurd (nI_le (Nat.le_refl 36) (by decide)) e⟩, hq, fun _ _ => rfl⟩
  | succ d ih =>
    intro j I hj hq
    obtain ⟨I1, b1, b2, b3⟩ := ih (j + 1) (rw1 I 71 (upd (I 71) j (b2i false))) (by omega) (fun k hk => by
      rw [rw1_s]
      unfold upd
      by_cases he : k = j
      · rw [if_pos he]; rfl
      · rw [if_neg he]; exact hq k (by omega))
    refine ⟨I1, wp_X10_begin_18 (hS.k 68 10 (by decide) (by decide)) (hS.r 68 4 71 (by decide)) (hS.k 71 15 (by decide) (by decide)) ⟨fun e => absurd ((nI_leI (a := 36) (by decide) (by omega)).mp e) (by omega), fun _ => ⟨v36 hS (by simp) (by omega), fun I2 h2 y hy => ?_⟩⟩, b2, fun a ha => by rw [b3 a ha, rw1_n _ _ ha]⟩
    rw [nI_clamp (by omega), show vp_nar .boolean (0 : Int32) = b2i false from nar_b false] at h2
    rw [hy, nI_1, h2]
    exact b1
theorem sp_wbegin (hS : Sh Z) : ∃ I1, Cl g 2 mu_X10_begin [rf g 68] (Z, I, L) none (Z, I1, L) ∧ (∀ k, k < 36 → I1 71 k = 0) ∧ (∀ i, i < 6 → I1 72 i = -1) ∧ (∀ o, o < 6 → I1 73 o = -1) ∧ ∀ a, a ≠ 71 → a ≠ 72 → a ≠ 73 → I1 a = I a := by
  have f1 := sp_fill (g := g) (I := I) (L := L) (v := -1) (hS.k 72 13 (by decide) (by decide)) (hS.n 72 6 (by decide)) (by decide)
  obtain ⟨J1, q1⟩ : ∃ J, J = rw1 I 72 (fun q => if q < 6 then -1 else I 72 q) := ⟨_, rfl⟩
  rw [← q1] at f1
  have f2 := sp_fill (g := g) (I := J1) (L := L) (v := -1) (hS.k 73 13 (by decide) (by decide)) (hS.n 73 6 (by decide)) (by decide)
  obtain ⟨J2, q2⟩ : ∃ J, J = rw1 J1 73 (fun q => if q < 6 then -1 else J1 73 q) := ⟨_, rfl⟩
  rw [← q2] at f2
  obtain ⟨I1, b1, b2, b3⟩ := bw_run (g := g) (L := L) hS 36 0 J2 (Nat.zero_add _) (fun k hk => absurd hk (by omega))
  refine ⟨I1, cp_X10_begin (hS.k 68 10 (by decide) (by decide)) (hS.r 68 5 72 (by decide)) (hS.k 72 13 (by decide) (by decide)) (hS.r 68 6 73 (by decide)) (hS.k 73 13 (by decide) (by decide)) ⟨J1, L, f1, J2, L, f2, b1⟩, b2, fun i hi => ?_, fun o ho => ?_, fun a h1 h2 h3 => by rw [b3 a h1, q2, rw1_n _ _ h3, q1, rw1_n _ _ h2]⟩
  · rw [b3 72 (by decide), q2, rw1_n _ _ (by decide), q1, rw1_s, if_pos hi]
  · rw [b3 73 (by decide), q2, rw1_s, if_pos ho]
end CWED2
section CWED3
variable {g : GE} {Z : Zs} {I : Nat → Nat → Int32} {L : Nat → Nat → Int64} {w h : Nat} {S : Nat → List Nat} {tx : List TX}
def wedA (a : Nat) : Prop := (13 ≤ a ∧ a ≤ 15) ∨ (68 ≤ a ∧ a ≤ 73)
theorem akL_rg {t : TX} {side o i : Nat} (hR : lkR t S) (hs : side < 2) (ho : o < 6) (hi : i < 6) : rg (akL t S side o i) := by
  unfold akL
  split
  · exact hR _ _ _ hi ho (by decide)
  · exact hR _ _ _ ho hi (by decide)
theorem sp_carrierOf (cl : CL Z I w h S tx) {sc : Nat} {t : TX} (hT : TC Z I sc t) (hok : TXok t) (hR : lkR t S) {rider side : Nat} (hr : rider < 6) (hs : side < 2) : ∃ I1, Cl g 6 mu_X10_carrierOf [rf g 68, .int (nI rider), .int (nI side), rf g sc] (Z, I, L) (some (.int (oI (wedF t S side rider)))) (Z, I1, L) ∧ CL Z I1 w h S tx ∧ ∀ a, ¬ wedA a → I1 a = I a := by
  obtain ⟨k, hW, -⟩ := id cl
  have h9 : (S 9).length ≤ 6 := (k.il 9 (by decide)).2.2.2.2.2.1
  have h10 : (S 10).length ≤ 6 := (k.il 10 (by decide)).2.2.2.2.2.1
  have hn1 : nAsk S side ≤ 6 := by unfold nAsk; split <;> assumption
  have hn2 : nAkd S side ≤ 6 := by unfold nAkd; split <;> assumption
  obtain ⟨J1, q1⟩ : ∃ J, J = rw1 I 68 (upd (I 68) 7 (nI (nAsk S side))) := ⟨_, rfl⟩
  have cl1 : CL Z J1 w h S tx := by rw [q1]; exact cl.ow (by decide) (by decide) _
  obtain ⟨J2, q2⟩ : ∃ J, J = rw1 J1 68 (upd (J1 68) 8 (nI (nAkd S side))) := ⟨_, rfl⟩
  have cl2 : CL Z J2 w h S tx := by rw [q2]; exact cl1.ow (by decide) (by decide) _
  have e7 : J2 68 7 = nI (nAsk S side) := by rw [q2, rw1_s, q1, rw1_s]; rfl
  have e8 : J2 68 8 = nI (nAkd S side) := by rw [q2, rw1_s]; rfl
  obtain ⟨J3, b1, b2, b3, b4, b5⟩ := sp_wbegin (g := g) (I := J2) (L := L) k.1
  have fr3 : ∀ a, ¬ (68 ≤ a ∧ a ≤ 73) → J3 a = I a := fun a ha => by rw [b5 a (by omega) (by omega) (by omega), q2, rw1_n _ _ (by omega), q1, rw1_n _ _ (by omega)]
  have cl3 : CL Z J3 w h S tx := cl.kept (fun a ha => fr3 a (by unfold stA at ha; omega))
  have e7' : J3 68 7 = nI (nAsk S side) := by rw [b5 68 (by decide) (by decide) (by decide)]; exact e7
  have e8' : J3 68 8 = nI (nAkd S side) := by rw [b5 68 (by decide) (by decide) (by decide)]; exact e8
  obtain ⟨J4, c1, c2, c3, c4⟩ := ln_2 (g := g) (L := L) hok hn1 hn2 hs (nAsk S side) 0 J3 (Nat.zero_add _) cl3 (hT.kept (fun a x1 _ => fr3 a (by omega))) e7' e8' (fun i o _ _ hd => absurd hd (by omega))
  have hC : WC J4 (asL t S side) (akL t S side) (nAsk S side) (nAkd S side) s0W := by
    refine ⟨?_, ?_, fun k hk => ?_, fun i hi => ?_, fun o ho => ?_, fun i o hi ho => c3 i o (by omega) ho (Or.inl hi)⟩
    · rw [c4 68 (by decide) (by decide) (by decide) (by decide) (by decide)]; exact e7'
    · rw [c4 68 (by decide) (by decide) (by decide) (by decide) (by decide)]; exact e8'
    · rw [c4 71 (by decide) (by decide) (by decide) (by decide) (by decide)]; exact b2 k hk
    · rw [c4 72 (by decide) (by decide) (by decide) (by decide) (by decide)]; exact b3 i hi
    · rw [c4 73 (by decide) (by decide) (by decide) (by decide) (by decide)]; exact b4 o ho
  obtain ⟨I1, d1, d2⟩ := co_75 (g := g) (L := L) k.1 hs hr hn1 hn2 (fun o i ho hi => akL_rg hR hs (by omega) (by omega)) 36 0 s0W J4 (Nat.zero_add _) hC (s0W_ok _ _)
  have fr : ∀ a, ¬ wedA a → I1 a = I a := fun a ha => by
    unfold wedA at ha
    rw [d2 a (by omega) (by omega) (by omega), c4 a (by omega) (by omega) (by omega) (by omega) (by omega), fr3 a (by omega)]
  have clE : CL Z I1 w h S tx := c2.kept (fun a ha => d2 a (by unfold stA at ha; omega) (by unfold stA at ha; omega) (by unfold stA at ha; omega))
  have cp := fun (r : Option Value) (M' : Mem) => @cp_X10_carrierOf g Z I L r M' 68 (nI rider) (nI side) sc 18 37 35 (k.1.k 68 10 (by decide) (by decide)) hT.2.1 (k.1.r 68 0 18 (by decide)) (k.1.k 18 8 (by decide) (by decide)) (k.1.r 18 12 37 (by decide)) (k.1.k 37 2 (by decide) (by decide)) (k.1.r 18 11 35 (by decide)) (k.1.k 35 2 (by decide) (by decide))
  have cl' := cp_X10_learn (g := g) (L := L) (I := J3) (k.1.k 68 10 (by decide) (by decide)) hT.2.1 c1
  by_cases hs0 : side = 0
  · have z : nI side = 0 := by rw [hs0]; rfl
    have sz1 := sp_size (g := g) (L := L) (k.il 9 (by decide))
    have sz2 := sp_size (g := g) (L := L) (cl1.1.il 10 (by decide))
    have en1 : nAsk S side = (S 9).length := by unfold nAsk; rw [if_pos hs0]
    have en2 : nAkd S side = (S 10).length := by unfold nAkd; rw [if_pos hs0]
    rw [← en1] at sz1
    rw [← en2] at sz2
    exact ⟨I1, cp _ _ ⟨fun e => absurd z e, fun _ => ⟨_, sz1, fun I24 h24 => by
      rw [← q1] at h24
      rw [h24]
      exact ⟨fun e => absurd z e, fun _ => ⟨_, sz2, fun I36 h36 => by
        rw [← q2] at h36
        rw [h36]
        exact ⟨J3, L, b1, J4, L, cl', d1⟩⟩⟩⟩⟩, clE, fr⟩
  · have z : ¬ nI side = 0 := nI_ne0 (by omega) (by omega)
    have sz1 := sp_size (g := g) (L := L) (k.il 10 (by decide))
    have sz2 := sp_size (g := g) (L := L) (cl1.1.il 9 (by decide))
    have en1 : nAsk S side = (S 10).length := by unfold nAsk; rw [if_neg hs0]
    have en2 : nAkd S side = (S 9).length := by unfold nAkd; rw [if_neg hs0]
    rw [← en1] at sz1
    rw [← en2] at sz2
    exact ⟨I1, cp _ _ ⟨fun _ => ⟨_, sz1, fun I24 h24 => by
      rw [← q1] at h24
      rw [h24]
      exact ⟨fun _ => ⟨_, sz2, fun I36 h36 => by
        rw [← q2] at h36
        rw [h36]
        exact ⟨J3, L, b1, J4, L, cl', d1⟩⟩, fun e => absurd e z⟩⟩, fun e => absurd e z⟩, clE, fr⟩
def vWed (S : Nat → List Nat) (tx : List TX) (x1 x2 x3 : Int32) : Prop := (∃ hb, x1 = nI hb ∧ hb < tx.length) ∧ (¬ x2 < 0 ∧ ¬ 1 < x2) ∧ ∃ r, x3 = nI r ∧ r < (S 9).length
theorem op_wed (cl : CL Z I w h S tx) {hb side rider : Nat} {t : TX} (htx : tx[hb]? = some t) (hs : side < 2) (hr : rider < (S 9).length) (hR : lkR t S) : ∃ I1, Cl g 7 mu_X11_wed [rf g 0, .int (nI hb), .int (nI side), .int (nI rider)] (Z, I, L) (some (.int (oI (wedF t S side rider)))) (Z, I1, L) ∧ CL Z I1 w h S tx ∧ ∀ a, ¬ wedA a → I1 a = I a := by
  obtain ⟨k, hW, -⟩ := id cl
  have h9 : (S 9).length ≤ 6 := (k.il 9 (by decide)).2.2.2.2.2.1
  obtain ⟨sc, s1, s2⟩ := sp_scriptOf (g := g) (L := L) k htx
  have hok : TXok t := hW.2.2.2.2.2.2.2.2.2.2.2.2.2.2.2.2 hb t htx
  obtain ⟨I1, c1, c2, c3⟩ := sp_carrierOf (g := g) (L := L) cl s2 hok hR (show rider < 6 by omega) hs
  refine ⟨I1, cp_X11_wed (k.1.k 0 11 (by decide) (by decide)) (k.1.r 0 0 18 (by decide)) (k.1.k 18 8 (by decide) (by decide)) (k.1.r 18 11 35 (by decide)) (k.1.k 35 2 (by decide) (by decide)) (k.1.r 0 6 68 (by decide)) (k.1.k 68 10 (by decide) (by decide)) ⟨_, s1, fun e => (by cases e), fun b3 hb3 => ?_⟩, c2, c3⟩
  obtain rfl := Option.some.inj hb3
  exact ⟨s2.2.1, fun e => absurd e (nI_pos (by omega)), fun _ => ⟨fun e => absurd ((nI_ltI (a := 1) (by decide) (by omega)).mp e) (by omega), fun _ => ⟨fun e => absurd e (nI_pos (by omega)), fun _ => ⟨_, sp_size (k.il 9 (by decide)), fun _ => ⟨_, I1, L, c1, rfl, rfl⟩, fun e => absurd (nI_lt hr (by omega)) e⟩⟩⟩⟩
theorem sp_scriptOfN (k : CS Z I w h S tx) {x : Int32} (hn : ¬ ∃ hb, x = nI hb ∧ hb < tx.length) : Cl g 1 mu_X8_scriptOf [rf g 18, .int x] (Z, I, L) (some (rv g none)) (Z, I, L) := by
  have h4 := k.2.2.2.2.2.2.2.1
  refine cp_X8_scriptOf (k.1.k 18 8 (by decide) (by decide)) (k.1.r 18 13 39 (by decide)) (k.1.k 39 16 (by decide) (by decide)) ?_
  rw [k.2.2.2.2.2.2.1]
  refine ⟨fun _ => ⟨rfl, rfl⟩, fun e1 => ⟨fun _ => ⟨rfl, rfl⟩, fun e2 => absurd ?_ hn⟩⟩
  exact in0_nI (by omega) ⟨e1, Int32.not_le.mp e2⟩
theorem op_wedN (cl : CL Z I w h S tx) {x1 x2 x3 : Int32} (hn : ¬ vWed S tx x1 x2 x3) : Cl g 7 mu_X11_wed [rf g 0, .int x1, .int x2, .int x3] (Z, I, L) (some (.int (-1))) (Z, I, L) := by
  obtain ⟨k, hW, -⟩ := id cl
  have h9 : (S 9).length ≤ 6 := (k.il 9 (by decide)).2.2.2.2.2.1
  have cp := fun (r : Option Value) (M' : Mem) => @cp_X11_wed g Z I L r M' 0 x1 x2 x3 18 35 68 (k.1.k 0 11 (by decide) (by decide)) (k.1.r 0 0 18 (by decide)) (k.1.k 18 8 (by decide) (by decide)) (k.1.r 18 11 35 (by decide)) (k.1.k 35 2 (by decide) (by decide)) (k.1.r 0 6 68 (by decide)) (k.1.k 68 10 (by decide) (by decide))
  by_cases h1 : ∃ hb, x1 = nI hb ∧ hb < tx.length
  · obtain ⟨hb, rfl, hb2⟩ := id h1
    obtain ⟨sc, s1, s2⟩ := sp_scriptOf (g := g) (L := L) k (List.getElem?_eq_getElem hb2)
    refine cp _ _ ⟨_, s1, fun e => (by cases e), fun b3 hb3 => ?_⟩
    obtain rfl := Option.some.inj hb3
    refine ⟨s2.2.1, fun _ => ⟨rfl, rfl⟩, fun e1 => ⟨fun _ => ⟨rfl, rfl⟩, fun e2 => ⟨fun _ => ⟨rfl, rfl⟩, fun e3 => ⟨_, sp_size (k.il 9 (by decide)), fun e4 => absurd ?_ hn, fun _ => ⟨rfl, rfl⟩⟩⟩⟩⟩
    exact ⟨h1, ⟨e1, e2⟩, in0_nI (by omega) ⟨e3, e4⟩⟩
  · exact cp _ _ ⟨none, sp_scriptOfN k h1, fun _ => ⟨rfl, rfl⟩, fun b3 hb3 => by cases hb3⟩
end CWED3
