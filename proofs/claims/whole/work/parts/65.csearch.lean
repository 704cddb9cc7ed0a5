/-! the class's search: a row behind a TAP, is a row there, keeping one -/
def tA (f : Nat → Bool) : Nat → Bool → Bool
  | 0, b => b
  | j + 1, b => tA f j (b && f j)
theorem tA_eq {f : Nat → Bool} : ∀ (n : Nat) (b : Bool), tA f n b = (b && decide (∀ i, i < n → f i = true)) := by
  intro n
  induction n with
  | zero =>
    intro b
    show b = _
    rw [decide_eq_true (fun i hi => absurd hi (by omega)), Bool.and_true]
  | succ n ih =>
    intro b
    show tA f n (b && f n) = _
    rw [ih, Bool.and_assoc]
    congr 1
    cases hf : f n with
    | false =>
      rw [Bool.false_and, decide_eq_false (fun z => by rw [z n (by omega)] at hf; cases hf)]
    | true =>
      rw [Bool.true_and]
      by_cases h : ∀ i, i < n → f i = true
      · rw [decide_eq_true h, decide_eq_true (fun i hi => by
          by_cases hin : i = n
          · rw [hin]; exact hf
          · exact h i (by omega))]
      · rw [decide_eq_false h, decide_eq_false (fun z => h (fun i hi => z i (by omega)))]
theorem neg1 (j : Nat) : nI j + (-1) = nI j - 1 := by rw [Int32.sub_eq_add_neg]
section CSEARCH
variable {g : GE} {Z : Zs} {I : Nat → Nat → Int32} {L : Nat → Nat → Int64} {w h : Nat} {S : Nat → List Nat} {tx : List TX} {sa n : Nat} {T : List Nat} {tt : Nat → TX}
theorem rb_run (hE : SE Z sa) {p : Nat → Nat} {tap : Nat} (ht : tap < 4) (h3 : n ≤ 3) (hp : ∀ i, i < n → p i < 4 * (w * h)) (hT : ∀ i, i < n → tx[T.getD i 0]? = some (tt i)) : ∀ (j acc pl : Nat) (I : Nat → Nat → Int32), j ≤ n → CL Z I w h S tx → IL Z I (sa + 1) (sa + 2) 3 T →
    ∃ I1, Lp_X7_rowBehind_19 g 6 sa (nI tap) (nI (encF p j)) (nI acc) (nI pl) (nI j - 1) (Z, I, L) (some (.int (nI (acc + pl * encF (fun i => stepF w h (S 0) (tt i) (p i) tap % 200) j)))) (Z, I1, L) ∧ CL Z I1 w h S tx ∧ ∀ a, a ≠ 13 → a ≠ 14 → a ≠ 15 → a ≠ 67 → I1 a = I a := by
  obtain ⟨e0, e1, e2, ⟨t1, t2, t3, t4, t5⟩, e4, e5, e6, e7⟩ := id hE
  intro j
  induction j with
  | zero =>
    intro acc pl I hj cl hI
    refine ⟨I, wp_X7_rowBehind_19 e1 e2 (cl.1.1.k 66 3 (by decide) (by decide)) t1 t2 ⟨fun _ => ⟨?_, rfl⟩, fun e => absurd (by decide) e⟩, cl, fun _ _ _ _ _ => rfl⟩
    show _ = some (Value.int (nI acc))
    rw [show encF (fun i => stepF w h (S 0) (tt i) (p i) tap % 200) 0 = 0 from rfl, Nat.mul_zero, Nat.add_zero]
  | succ j ih =>
    intro acc pl I hj cl hI
    obtain ⟨k, hW, -⟩ := id cl
    have hm := k.2.1.mul
    have hpj := hp j (by omega)
    have hlt : encF p j < 100 ^ j := encF_lt (fun i hi => by have := hp i (by omega); omega)
    have hpw : 100 ^ j ≤ 100 ^ 2 := Nat.pow_le_pow_right (by decide) (by omega)
    have hst := stepF_lt (K := S 0) (t := tt j) (tap := tap) k.2.1 hpj
    have ee : encF p (j + 1) = encF p j * 100 + p j := rfl
    have em : nI (encF p (j + 1)) - nI (encF p (j + 1)) / 100 * 100 = nI (p j) := by
      rw [show nI (encF p (j + 1)) - nI (encF p (j + 1)) / 100 * 100 = nI (encF p (j + 1) % 100) from pk_rem (d := 100) (by omega) (by decide) (by decide)]
      congr 1
      omega
    have ed : nI (encF p (j + 1)) / 100 = nI (encF p j) := by
      rw [show nI (encF p (j + 1)) / 100 = nI (encF p (j + 1) / 100) from pk_div (d := 100) (by omega) (by decide) (by decide)]
      congr 1
      omega
    have ca := sp_at (g := g) (L := L) hI (nI j)
    rw [atL_n _ (by omega)] at ca
    obtain ⟨I2, d1, d2, d3⟩ := sp_step (g := g) (L := L) cl (hT j (by omega)) hpj ht
    obtain ⟨I1, f1, f2, f3⟩ := ih (acc + pl * (stepF w h (S 0) (tt j) (p j) tap % 200)) (pl * 100) I2 (by omega) d2 (hI.kept (by rw [d3 _ (by omega) (by omega) (by omega) (by omega)]) (fun q _ => by rw [d3 _ (by omega) (by omega) (by omega) (by omega)]))
    refine ⟨I1, ?_, f2, fun a x1 x2 x3 x4 => by rw [f3 a x1 x2 x3 x4, d3 a x1 x2 x3 x4]⟩
    rw [nI_pred]
    refine wp_X7_rowBehind_19 e1 e2 (k.1.k 66 3 (by decide) (by decide)) t1 t2 ⟨fun e => absurd e (nI_pos (by omega)), fun _ => ⟨_, ca, ?_⟩⟩
    rw [em]
    refine ⟨_, I2, L, d1, _, sp_poseOf (by omega), fun y9 h9 y10 h10 y11 h11 y12 h12 => ?_⟩
    rw [pk_mul, nI_add] at h9
    rw [ed] at h10
    rw [show nI pl * (100 : Int32) = nI (pl * 100) from pk_mul pl 100] at h11
    rw [neg1] at h12
    rw [h9, h10, h11, h12]
    have er : acc + pl * encF (fun i => stepF w h (S 0) (tt i) (p i) tap % 200) (j + 1) = acc + pl * (stepF w h (S 0) (tt j) (p j) tap % 200) + pl * 100 * encF (fun i => stepF w h (S 0) (tt i) (p i) tap % 200) j := by
      show acc + pl * (encF (fun i => stepF w h (S 0) (tt i) (p i) tap % 200) j * 100 + stepF w h (S 0) (tt j) (p j) tap % 200) = _
      rw [Nat.mul_add, Nat.mul_assoc pl 100, Nat.mul_comm 100]
      omega
    rw [er]
    exact f1
theorem sp_rowBehind (cl : CL Z I w h S tx) (hE : SE Z sa) (hI : IL Z I (sa + 1) (sa + 2) 3 T) (hl : T.length = n) (hn : 1 ≤ n) (h3 : n ≤ 3) (hT : ∀ i, i < n → tx[T.getD i 0]? = some (tt i)) {r : TR} {tap : Nat} (ht : tap < 4) (hr : okR w h S n r) : ∃ I1, Cl g 6 mu_X7_rowBehind [rf g sa, .int (nI (encF (pr r) n)), .int (nI tap)] (Z, I, L) (some (.int (nI (encF (pr (nxT w h (S 0) n tt r tap)) n)))) (Z, I1, L) ∧ CL Z I1 w h S tx ∧ ∀ a, a ≠ 13 → a ≠ 14 → a ≠ 15 → a ≠ 67 → I1 a = I a := by
  obtain ⟨e0, e1, e2, ⟨t1, t2, t3, t4, t5⟩, e4, e5, e6, e7⟩ := id hE
  obtain ⟨I1, a1, a2, a3⟩ := rb_run (g := g) (L := L) hE (p := pr r) (tt := tt) (T := T) ht h3 (fun i hi => (hr.1 i hi).1) hT n 0 1 I (Nat.le_refl _) cl hI
  have sz := sp_size (g := g) (L := L) hI
  rw [hl] at sz
  refine ⟨I1, cp_X7_rowBehind e1 t1 t2 ⟨_, sz, fun y hy => ?_⟩, a2, a3⟩
  rw [hy]
  rw [Nat.zero_add, Nat.one_mul] at a1
  rw [encF_same (p := pr (nxT w h (S 0) n tt r tap)) (q := fun i => stepF w h (S 0) (tt i) (pr r i) tap % 200) (fun i hi => nxT_pr hn h3 hi)]
  exact a1
theorem isT_run (hE : SE Z sa) (hI : IL Z I (sa + 1) (sa + 2) 3 T) (hl : T.length = n) (h3 : n ≤ 3) {p : Nat → Nat} (hp : ∀ i, i < n → p i < 100) {goal : Option Nat} (hg : I sa 7 = oI goal) (hgl : ∀ c, goal = some c → c < 100) {last : Nat} (hla : last < 100) : ∀ (j : Nat) (b1 b2 : Bool), j ≤ n → Lp_X7_isThere_16 g 2 sa (nI (encF p j)) (nI last) (b2i b1) (b2i b2) (nI (n - j)) (Z, I, L) (some (.int (b2i (if goal = none then !(tA (fun i => decide (p i = last)) j b2) else tA (fun i => decide (some (p i / 4) = goal)) j b1)))) (Z, I, L) := by
  obtain ⟨e0, e1, e2, ⟨t1, t2, t3, t4, t5⟩, e4, e5, e6, e7⟩ := id hE
  have sz := sp_size (g := g) (L := L) hI
  rw [hl] at sz
  have og : ∀ c, goal = some c → c < 2 ^ 31 := fun c hc => by have := hgl c hc; omega
  intro j
  induction j with
  | zero =>
    intro b1 b2 hj
    refine wp_X7_isThere_16 e1 t1 t2 ⟨_, sz, fun _ => ?_, fun e => absurd (nI_le (show n ≤ n - 0 by omega) (by omega)) e⟩
    rw [hg, oI_no og]
    refine ⟨fun e => ⟨by cases b1; exact Or.inl rfl; exact Or.inr rfl, ?_, rfl⟩, fun e => ⟨fun f => ⟨?_, rfl⟩, fun f => ⟨?_, rfl⟩⟩⟩
    · rw [if_neg e]; rfl
    · rw [if_pos e]
      cases b2 with
      | true => rfl
      | false => exact absurd rfl f
    · rw [if_pos e]
      cases b2 with
      | true => exact absurd f (by decide)
      | false => rfl
  | succ j ih =>
    intro b1 b2 hj
    have hpj := hp j (by omega)
    have hlt : encF p j < 100 ^ j := encF_lt (fun i hi => hp i (by omega))
    have hpw : 100 ^ j ≤ 100 ^ 2 := Nat.pow_le_pow_right (by decide) (by omega)
    have ee : encF p (j + 1) = encF p j * 100 + p j := rfl
    have em : nI (encF p (j + 1)) - nI (encF p (j + 1)) / 100 * 100 = nI (p j) := by
      rw [show nI (encF p (j + 1)) - nI (encF p (j + 1)) / 100 * 100 = nI (encF p (j + 1) % 100) from pk_rem (d := 100) (by omega) (by decide) (by decide)]
      congr 1
      omega
    have ed : nI (encF p (j + 1)) / 100 = nI (encF p j) := by
      rw [show nI (encF p (j + 1)) / 100 = nI (encF p (j + 1) / 100) from pk_div (d := 100) (by omega) (by decide) (by decide)]
      congr 1
      omega
    have e4' : nI (p j) / 4 = nI (p j / 4) := pk_div (d := 4) (by omega) (by decide) (by decide)
    have eu : nI (n - (j + 1)) + 1 = nI (n - j) := by rw [nI_1]; congr 1; omega
    have q1 : (nI (p j / 4) = I sa 7) ↔ decide (some (p j / 4) = goal) = true := by
      rw [hg, decide_eq_true_iff]
      cases goal with
      | none => exact ⟨fun e => absurd e (nI_ne_m1 (by omega)), fun e => by cases e⟩
      | some c => exact ⟨fun e => by rw [(nI_eq (by omega) (og c rfl)).mp e], fun e => by rw [Option.some.inj e]; rfl⟩
    have q2 : (nI (p j) = nI last) ↔ decide (p j = last) = true := by rw [decide_eq_true_iff]; exact nI_eq (by omega) (by omega)
    have nx := ih (b1 && decide (some (p j / 4) = goal)) (b2 && decide (p j = last)) (by omega)
    refine wp_X7_isThere_16 e1 t1 t2 ⟨_, sz, fun e => absurd e (nI_ge (by omega) (by omega)), fun _ => ?_⟩
    rw [em, ed, e4', q1, q2, eu]
    show _
    have goA : tA (fun i => decide (p i = last)) (j + 1) b2 = tA (fun i => decide (p i = last)) j (b2 && decide (p j = last)) := rfl
    have goB : tA (fun i => decide (some (p i / 4) = goal)) (j + 1) b1 = tA (fun i => decide (some (p i / 4) = goal)) j (b1 && decide (some (p j / 4) = goal)) := rfl
    rw [goA, goB]
    cases hd1 : decide (some (p j / 4) = goal) with
    | true =>
      cases hd2 : decide (p j = last) with
      | true =>
        rw [hd1, hd2] at nx
        cases b1 with
        | true => cases b2 with
          | true => exact ⟨fun e => absurd e (by decide), fun _ => ⟨fun e => absurd rfl e, fun _ => ⟨fun e => absurd e (by decide), fun _ => ⟨fun e => absurd rfl e, fun _ y hy y2 hy2 => by rw [hy, hy2]; exact nx⟩⟩⟩⟩
          | false => exact ⟨fun e => absurd e (by decide), fun _ => ⟨fun e => absurd rfl e, fun _ => ⟨fun _ y hy y2 hy2 => by rw [hy, hy2]; exact nx, fun e => absurd rfl e⟩⟩⟩
        | false => cases b2 with
          | true => exact ⟨fun _ => ⟨fun e => absurd e (by decide), fun _ => ⟨fun e => absurd rfl e, fun _ y hy y2 hy2 => by rw [hy, hy2]; exact nx⟩⟩, fun e => absurd rfl e⟩
          | false => exact ⟨fun _ => ⟨fun _ y hy y2 hy2 => by rw [hy, hy2]; exact nx, fun e => absurd rfl e⟩, fun e => absurd rfl e⟩
      | false =>
        rw [hd1, hd2] at nx
        cases b1 with
        | true => cases b2 with
          | true => exact ⟨fun e => absurd e (by decide), fun _ => ⟨fun e => absurd rfl e, fun _ => ⟨fun e => absurd e (by decide), fun _ => ⟨fun _ y hy y2 hy2 => by rw [hy, hy2]; exact nx, fun e => by cases e⟩⟩⟩⟩
          | false => exact ⟨fun e => absurd e (by decide), fun _ => ⟨fun e => absurd rfl e, fun _ => ⟨fun _ y hy y2 hy2 => by rw [hy, hy2]; exact nx, fun e => absurd rfl e⟩⟩⟩
        | false => cases b2 with
          | true => exact ⟨fun _ => ⟨fun e => absurd e (by decide), fun _ => ⟨fun _ y hy y2 hy2 => by rw [hy, hy2]; exact nx, fun e => by cases e⟩⟩, fun e => absurd rfl e⟩
          | false => exact ⟨fun _ => ⟨fun _ y hy y2 hy2 => by rw [hy, hy2]; exact nx, fun e => absurd rfl e⟩, fun e => absurd rfl e⟩
    | false =>
      cases hd2 : decide (p j = last) with
      | true =>
        rw [hd1, hd2] at nx
        cases b1 with
        | true => cases b2 with
          | true => exact ⟨fun e => absurd e (by decide), fun _ => ⟨fun _ => ⟨fun e => absurd e (by decide), fun _ => ⟨fun e => absurd rfl e, fun _ y hy y2 hy2 => by rw [hy, hy2]; exact nx⟩⟩, fun e => by cases e⟩⟩
          | false => exact ⟨fun e => absurd e (by decide), fun _ => ⟨fun _ => ⟨fun _ y hy y2 hy2 => by rw [hy, hy2]; exact nx, fun e => absurd rfl e⟩, fun e => by cases e⟩⟩
        | false => cases b2 with
          | true => exact ⟨fun _ => ⟨fun e => absurd e (by decide), fun _ => ⟨fun e => absurd rfl e, fun _ y hy y2 hy2 => by rw [hy, hy2]; exact nx⟩⟩, fun e => absurd rfl e⟩
          | false => exact ⟨fun _ => ⟨fun _ y hy y2 hy2 => by rw [hy, hy2]; exact nx, fun e => absurd rfl e⟩, fun e => absurd rfl e⟩
      | false =>
        rw [hd1, hd2] at nx
        cases b1 with
        | true => cases b2 with
          | true => exact ⟨fun e => absurd e (by decide), fun _ => ⟨fun _ => ⟨fun e => absurd e (by decide), fun _ => ⟨fun _ y hy y2 hy2 => by rw [hy, hy2]; exact nx, fun e => by cases e⟩⟩, fun e => by cases e⟩⟩
          | false => exact ⟨fun e => absurd e (by decide), fun _ => ⟨fun _ => ⟨fun _ y hy y2 hy2 => by rw [hy, hy2]; exact nx, fun e => absurd rfl e⟩, fun e => by cases e⟩⟩
        | false => cases b2 with
          | true => exact ⟨fun _ => ⟨fun e => absurd e (by decide), fun _ => ⟨fun _ y hy y2 hy2 => by rw [hy, hy2]; exact nx, fun e => by cases e⟩⟩, fun e => absurd rfl e⟩
          | false => exact ⟨fun _ => ⟨fun _ y hy y2 hy2 => by rw [hy, hy2]; exact nx, fun e => absurd rfl e⟩, fun e => absurd rfl e⟩
theorem sp_isThere (hE : SE Z sa) (hI : IL Z I (sa + 1) (sa + 2) 3 T) (hl : T.length = n) (hn : 1 ≤ n) (h3 : n ≤ 3) {r : TR} (hr : ∀ i, i < n → pr r i < 100) {goal : Option Nat} (hg : I sa 7 = oI goal) (hgl : ∀ c, goal = some c → c < 100) (h2 : goal = none → n = 2) : Cl g 2 mu_X7_isThere [rf g sa, .int (nI (encF (pr r) n))] (Z, I, L) (some (.int (b2i (thB n goal r)))) (Z, I, L) := by
  have hlt : encF (pr r) n < 100 ^ n := encF_lt hr
  have hpw : 100 ^ n ≤ 100 ^ 3 := Nat.pow_le_pow_right (by decide) (by omega)
  have ee : encF (pr r) n = encF (pr r) (n - 1) * 100 + pr r (n - 1) := by
    obtain ⟨m, rfl⟩ : ∃ m, n = m + 1 := ⟨n - 1, by omega⟩
    rfl
  have hla := hr (n - 1) (by omega)
  have em : nI (encF (pr r) n) - nI (encF (pr r) n) / 100 * 100 = nI (pr r (n - 1)) := by
    rw [show nI (encF (pr r) n) - nI (encF (pr r) n) / 100 * 100 = nI (encF (pr r) n % 100) from pk_rem (d := 100) (by omega) (by decide) (by decide)]
    congr 1
    omega
  have run := isT_run (g := g) (L := L) hE hI hl h3 hr hg hgl (last := pr r (n - 1)) hla n true true (Nat.le_refl _)
  rw [Nat.sub_self] at run
  refine cp_X7_isThere hE.2.1 (fun y hy => ?_)
  rw [hy, em]
  have er : (if goal = none then !(tA (fun i => decide (pr r i = pr r (n - 1))) n true) else tA (fun i => decide (some (pr r i / 4) = goal)) n true) = thB n goal r := by
    rw [tA_eq, tA_eq, Bool.true_and, Bool.true_and]
    cases goal with
    | some c =>
      rw [if_neg (fun e => by cases e)]
      unfold thB
      refine decide_eq_decide.mpr ⟨fun z i hi => ?_, fun z i hi => ?_⟩
      · exact Option.some.inj (of_decide_eq_true (z i hi))
      · exact decide_eq_true (by rw [z i hi])
    | none =>
      rw [if_pos rfl]
      have hn2 := h2 rfl
      subst hn2
      unfold thB
      by_cases he : r.1 = r.2.1
      · rw [decide_eq_false (show ¬ ¬ r.1 = r.2.1 from fun z => z he), decide_eq_true (fun i hi => ?_)]; rfl
        have cs : i = 0 ∨ i = 1 := by omega
        rcases cs with rfl | rfl
        · exact decide_eq_true he
        · exact decide_eq_true rfl
      · rw [decide_eq_true (show ¬ r.1 = r.2.1 from he), decide_eq_false (fun z => he ?_)]; rfl
        exact of_decide_eq_true (z 0 (by decide))
  rw [er] at run
  exact run
end CSEARCH
