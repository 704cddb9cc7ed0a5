/-! the class's scan() -/
section SCAN2
variable {g : GE} {Z : Zs} {I : Nat → Nat → Int32} {L : Nat → Nat → Int64} {tp : List Nat} {ts : List (Nat × Nat × Nat)}
theorem t_at (hT : IL Z I 1 2 300 tp) {p : Nat} (hp : p < 2 ^ 30) : Cl g 1 mu_X2_at [rf g 1, .int (nI p)] (Z, I, L) (some (.int (nI (tp.getD p 0)))) (Z, I, L) := by
  have := sp_at (g := g) (L := L) hT (nI p)
  rw [atL_n _ (by omega)] at this
  exact this
theorem sw_5 (hS : Sh Z) (hT : IL Z I 1 2 300 tp) (h8 : T8 tp) {p : Nat} {r : Option Value} {M' : Mem} : ∀ (d q k : Nat), k + d = 300 → q ≤ p + k → p < 1000 → Lp_X9_scanWord_39 g 8 4 1 (nI p) (nI (runF isLt tp d q)) 0 0 (Z, I, L) r M' → Lp_X9_scanWord_5 g 8 4 1 (nI p) (nI q) (nI k) (Z, I, L) r M' := by
  intro d
  induction d with
  | zero =>
    intro q k hk hq hp hc
    exact wp_X9_scanWord_5 (hS.k 4 9 (by decide) (by decide)) hT.1 ⟨fun _ => hc, fun e => absurd (nI_le (a := 300) (by omega) (by omega)) e⟩
  | succ d ih =>
    intro q k hk hq hp hc
    unfold runF at hc
    refine wp_X9_scanWord_5 (hS.k 4 9 (by decide) (by decide)) hT.1 ⟨fun e => absurd ((nI_leI (a := 300) (by decide) (by omega)).mp e) (by omega), fun _ => ⟨_, t_at hT (by omega), _, sp_isLt (h8.at q), fun e => ?_, fun e y hy y2 hy2 => ?_⟩⟩
    · rw [b2i_0] at e
      rw [e] at hc
      exact hc
    · have e : isLt (tp.getD q 0) = true := Classical.byContradiction (fun z => e (b2i_f z))
      rw [e, if_pos rfl] at hc
      rw [hy, hy2, nI_1, nI_1]
      exact ih (q + 1) (k + 1) (by omega) (by omega) hp hc
theorem sp_spelling {w : Nat} (hw : w < 19) : Cl g 1 mu_X9_spelling [.int (nI w)] (Z, I, L) (some (.ref (gK g w))) (Z, I, L) := by
  have kq : ∀ k, k < 256 → nI w = nI k → w = k := fun k hk e => (nI_eq (by omega) (by omega)).mp e
  refine cp_X9_spelling ⟨fun e => ?_, fun e => ⟨by rw [kq 0 (by decide) e], rfl⟩, fun e => ⟨by rw [kq 1 (by decide) e], rfl⟩, fun e => ⟨by rw [kq 2 (by decide) e], rfl⟩, fun e => ⟨by rw [kq 3 (by decide) e], rfl⟩, fun e => ⟨by rw [kq 4 (by decide) e], rfl⟩, fun e => ⟨by rw [kq 5 (by decide) e], rfl⟩, fun e => ⟨by rw [kq 6 (by decide) e], rfl⟩, fun e => ⟨by rw [kq 7 (by decide) e], rfl⟩, fun e => ⟨by rw [kq 8 (by decide) e], rfl⟩, fun e => ⟨by rw [kq 9 (by decide) e], rfl⟩, fun e => ⟨by rw [kq 10 (by decide) e], rfl⟩, fun e => ⟨by rw [kq 11 (by decide) e], rfl⟩, fun e => ⟨by rw [kq 12 (by decide) e], rfl⟩, fun e => ⟨by rw [kq 13 (by decide) e], rfl⟩, fun e => ⟨by rw [kq 14 (by decide) e], rfl⟩, fun e => ⟨by rw [kq 15 (by decide) e], rfl⟩, fun e => ⟨by rw [kq 16 (by decide) e], rfl⟩, fun e => ⟨by rw [kq 17 (by decide) e], rfl⟩, fun e => ⟨by rw [kq 18 (by decide) e], rfl⟩⟩
  rcases e with e | e
  · exact absurd e (nI_pos (by omega))
  · exact absurd ((nI_ltI (a := 18) (by decide) (by omega)).mp e) (by omega)
theorem sw_39 (hS : Sh Z) (hT : IL Z I 1 2 300 tp) (h8 : T8 tp) (hk : TKz Z I ts) (hl : ts.length ≤ 300) {p e : Nat} (hpe : p ≤ e) (he : e ≤ tp.length) : ∀ (d w : Nat), w + d = 19 → ∃ I1, Lp_X9_scanWord_39 g 8 4 1 (nI p) (nI e) (nI w) (nI w) (Z, I, L) (some (.int (nI e))) (Z, I1, L) ∧ TKz Z I1 (ts ++ [(wkF (fiF ((tp.drop p).take (e - p)) d w), p, wvF (fiF ((tp.drop p).take (e - p)) d w))]) ∧ ∀ q, ¬ (5 ≤ q ∧ q ≤ 10) → I1 q = I q := by
  have k4 := hS.k 4 9 (by decide) (by decide)
  have fin : ∀ w, w ≤ 19 → ∃ I1, ((11 ≤ nI w → ((19 ≤ nI w → (∃ (I9 : Nat → Nat → Int32) (L2 : Nat → Nat → Int64), Cl g 2 mu_X9_note [rf g 4, .int 36, .int (nI p), .int 0] (Z, I, L) none (Z, I9, L2) ∧ (some (Value.int (nI e)) = some (.int (nI e)) ∧ (Z, I1, L) = (Z, I9, L2)))) ∧ (¬ 19 ≤ nI w → (∃ (I4 : Nat → Nat → Int32) (L5 : Nat → Nat → Int64), Cl g 2 mu_X9_note [rf g 4, .int (nI w), .int (nI p), .int 0] (Z, I, L) none (Z, I4, L5) ∧ (some (Value.int (nI e)) = some (.int (nI e)) ∧ (Z, I1, L) = (Z, I4, L5)))))) ∧ (¬ 11 ≤ nI w → (∃ (I7 : Nat → Nat → Int32) (L8 : Nat → Nat → Int64), Cl g 2 mu_X9_note [rf g 4, .int 20, .int (nI p), .int (nI w)] (Z, I, L) none (Z, I7, L8) ∧ (some (Value.int (nI e)) = some (.int (nI e)) ∧ (Z, I1, L) = (Z, I7, L8))))) ∧ TKz Z I1 (ts ++ [(wkF w, p, wvF w)]) ∧ ∀ q, ¬ (5 ≤ q ∧ q ≤ 10) → I1 q = I q := fun w hw => by
    obtain ⟨I1, n1, n2, n3⟩ := sp_note (g := g) (L := L) hS hk hl (wkF w) p (wvF w)
    have l11 : (11 : Int32) ≤ nI w ↔ 11 ≤ w := nI_leI (a := 11) (by decide) (by omega)
    have l19 : (19 : Int32) ≤ nI w ↔ 19 ≤ w := nI_leI (a := 19) (by decide) (by omega)
    refine ⟨I1, ⟨fun h1 => ⟨fun h2 => ?_, fun h2 => ?_⟩, fun h1 => ?_⟩, n2, n3⟩
    · rw [l11] at h1; rw [l19] at h2
      have a1 : wkF w = 36 := by unfold wkF; rw [if_neg (by omega), if_neg (by omega)]
      have a2 : wvF w = 0 := by unfold wvF; rw [if_neg (by omega)]
      rw [a1, a2] at n1
      exact ⟨I1, L, n1, rfl, rfl⟩
    · rw [l11] at h1; rw [l19] at h2
      have a1 : wkF w = w := by unfold wkF; rw [if_neg (by omega), if_pos (by omega)]
      have a2 : wvF w = 0 := by unfold wvF; rw [if_neg (by omega)]
      rw [a1, a2] at n1
      exact ⟨I1, L, n1, rfl, rfl⟩
    · rw [l11] at h1
      have a1 : wkF w = 20 := by unfold wkF; rw [if_pos (by omega)]
      have a2 : wvF w = w := by unfold wvF; rw [if_pos (by omega)]
      rw [a1, a2] at n1
      exact ⟨I1, L, n1, rfl, rfl⟩
  intro d
  induction d with
  | zero =>
    intro w hw
    obtain ⟨I1, f1, f2, f3⟩ := fin w (by omega)
    exact ⟨I1, wp_X9_scanWord_39 k4 hT.1 ⟨fun _ => f1, fun z => absurd (nI_le (a := 19) (by omega) (by omega)) z⟩, f2, f3⟩
  | succ d ih =>
    intro w hw
    have n19 : ¬ (19 : Int32) ≤ nI w := fun z => absurd ((nI_leI (a := 19) (by decide) (by omega)).mp z) (by omega)
    have sp := sp_isSpelled (g := g) (L := L) (i := w) hT h8 (by omega) hpe he
    by_cases hm : (tp.drop p).take (e - p) = spL.getD w []
    · have ef : fiF ((tp.drop p).take (e - p)) (d + 1) w = w := by
        show (if _ then w else _) = w
        rw [if_pos hm]
      rw [ef]
      rw [decide_eq_true hm] at sp
      obtain ⟨I1, f1, f2, f3⟩ := fin w (by omega)
      exact ⟨I1, wp_X9_scanWord_39 k4 hT.1 ⟨fun z => absurd z n19, fun _ => ⟨w, sp_spelling (by omega), by omega, _, I, L, sp, fun _ => f1, fun z => absurd z (by decide)⟩⟩, f2, f3⟩
    · have ef : fiF ((tp.drop p).take (e - p)) (d + 1) w = fiF ((tp.drop p).take (e - p)) d (w + 1) := by
        show (if _ then w else _) = _
        rw [if_neg hm]
      rw [ef]
      rw [decide_eq_false hm] at sp
      obtain ⟨I1, f1, f2, f3⟩ := ih (w + 1) (by omega)
      exact ⟨I1, wp_X9_scanWord_39 k4 hT.1 ⟨fun z => absurd z n19, fun _ => ⟨w, sp_spelling (by omega), by omega, _, I, L, sp, fun z => absurd rfl z, fun _ y hy y2 hy2 => by rw [hy, hy2, nI_1]; exact f1⟩⟩, f2, f3⟩
theorem sp_scanWord (hS : Sh Z) (hT : IL Z I 1 2 300 tp) (h8 : T8 tp) (hk : TKz Z I ts) (hl : ts.length ≤ 300) {p : Nat} (hp : p < tp.length) (hL : isLt (tp.getD p 0) = true) : ∃ I1, Cl g 8 mu_X9_scanWord [rf g 4, rf g 1, .int (nI p)] (Z, I, L) (some (.int (nI (tkF tp p).2.2))) (Z, I1, L) ∧ TKz Z I1 (ts ++ [((tkF tp p).1, p, (tkF tp p).2.1)]) ∧ ∀ q, ¬ (5 ≤ q ∧ q ≤ 10) → I1 q = I q := by
  have hlen := hT.2.2.2.2.2.1
  have et : tkF tp p = (wkF (wdF ((tp.drop p).take (runF isLt tp 300 p - p))), wvF (wdF ((tp.drop p).take (runF isLt tp 300 p - p))), runF isLt tp 300 p) := by unfold tkF; rw [if_pos hL]
  rw [et]
  obtain ⟨I1, f1, f2, f3⟩ := sw_39 (g := g) (L := L) hS hT h8 hk hl (run_ge 300 p) (run_le (f := isLt) (by decide) 300 p (by omega)) 19 0 (Nat.zero_add _)
  exact ⟨I1, cp_X9_scanWord (hS.k 4 9 (by decide) (by decide)) hT.1 (sw_5 hS hT h8 300 p 0 (Nat.zero_add _) (Nat.le_refl _) (by omega) f1), f2, f3⟩
theorem sn_8 (hS : Sh Z) (hT : IL Z I 1 2 300 tp) (h8 : T8 tp) (hk : TKz Z I ts) (hl : ts.length ≤ 300) {p : Nat} (hp : p < 1000) : ∀ (d q v k : Nat), k + d = 300 → q ≤ p + k → v ≤ 10000 → ∃ I1, Lp_X9_scanNumber_8 g 3 4 1 (nI p) (nI q) (nI v) (nI k) (Z, I, L) (some (.int (nI (runF isDg tp d q)))) (Z, I1, L) ∧ TKz Z I1 (ts ++ [(19, p, numF tp d q v)]) ∧ ∀ q, ¬ (5 ≤ q ∧ q ≤ 10) → I1 q = I q := by
  have k4 := hS.k 4 9 (by decide) (by decide)
  intro d
  induction d with
  | zero =>
    intro q v k hk' hq hv
    obtain ⟨I1, n1, n2, n3⟩ := sp_note (g := g) (L := L) hS hk hl 19 p v
    exact ⟨I1, wp_X9_scanNumber_8 k4 hT.1 ⟨fun _ => ⟨I1, L, n1, rfl, rfl⟩, fun e => absurd (nI_le (a := 300) (by omega) (by omega)) e⟩, n2, n3⟩
  | succ d ih =>
    intro q v k hk' hq hv
    have n300 : ¬ (300 : Int32) ≤ nI k := fun z => absurd ((nI_leI (a := 300) (by decide) (by omega)).mp z) (by omega)
    by_cases hd : isDg (tp.getD q 0) = true
    · have hb := h8.at q
      have hd2 : 48 ≤ tp.getD q 0 := by
        unfold isDg at hd
        rw [Bool.and_eq_true, decide_eq_true_iff] at hd
        exact hd.1
      have er : runF isDg tp (d + 1) q = runF isDg tp d (q + 1) := by
        show (if isDg (tp.getD q 0) then _ else _) = _
        rw [if_pos hd]
      have en : numF tp (d + 1) q v = numF tp d (q + 1) (min 10000 (10 * v + tp.getD q 0 - 48)) := by
        show (if isDg (tp.getD q 0) then _ else _) = _
        rw [if_pos hd]
      rw [er, en]
      obtain ⟨I1, f1, f2, f3⟩ := ih (q + 1) (min 10000 (10 * v + tp.getD q 0 - 48)) (k + 1) (by omega) (by omega) (by omega)
      refine ⟨I1, wp_X9_scanNumber_8 k4 hT.1 ⟨fun z => absurd z n300, fun _ => ⟨_, t_at hT (by omega), _, sp_isDg (h8.at q), fun e => absurd e (b2i_1 hd), fun _ => ⟨_, t_at hT (by omega), fun y hy y2 hy2 y3 hy3 => ?_⟩⟩⟩, f2, f3⟩
      rw [show (10 : Int32) * nI v = nI (10 * v) from pk_mul 10 v, nI_add, show nI (10 * v + tp.getD q 0) - 48 = nI (10 * v + tp.getD q 0 - 48) from pk_sub (b := 48) (by omega)] at hy
      have em : (if nI (10 * v + tp.getD q 0 - 48) < 10000 then nI (10 * v + tp.getD q 0 - 48) else 10000) = nI (min 10000 (10 * v + tp.getD q 0 - 48)) := by
        rw [Nat.min_comm]
        exact minI (b := 10000) (by omega) (by decide)
      rw [em] at hy
      rw [hy, hy2, hy3, nI_1, nI_1]
      exact f1
    · have hf : isDg (tp.getD q 0) = false := by cases hx : isDg (tp.getD q 0); rfl; exact absurd hx hd
      have er : runF isDg tp (d + 1) q = q := by
        show (if isDg (tp.getD q 0) then _ else _) = _
        rw [if_neg hd]
      have en : numF tp (d + 1) q v = v := by
        show (if isDg (tp.getD q 0) then _ else _) = _
        rw [if_neg hd]
      rw [er, en]
      obtain ⟨I1, n1, n2, n3⟩ := sp_note (g := g) (L := L) hS hk hl 19 p v
      exact ⟨I1, wp_X9_scanNumber_8 k4 hT.1 ⟨fun z => absurd z n300, fun _ => ⟨_, t_at hT (by omega), _, sp_isDg (h8.at q), fun _ => ⟨I1, L, n1, rfl, rfl⟩, fun e => absurd (b2i_f hd) e⟩⟩, n2, n3⟩
theorem sp_scanOne (hS : Sh Z) (hT : IL Z I 1 2 300 tp) (h8 : T8 tp) (hk : TKz Z I ts) (hl : ts.length ≤ 300) {p : Nat} (hp : p < tp.length) : (tp.getD p 0 = 32 ∨ tp.getD p 0 = 10 → Cl g 9 mu_X9_scanOne [rf g 4, rf g 1, .int (nI p)] (Z, I, L) (some (.int (nI (p + 1)))) (Z, I, L)) ∧ (¬ (tp.getD p 0 = 32 ∨ tp.getD p 0 = 10) → ∃ I1, Cl g 9 mu_X9_scanOne [rf g 4, rf g 1, .int (nI p)] (Z, I, L) (some (.int (nI (tkF tp p).2.2))) (Z, I1, L) ∧ TKz Z I1 (ts ++ [((tkF tp p).1, p, (tkF tp p).2.1)]) ∧ ∀ q, ¬ (5 ≤ q ∧ q ≤ 10) → I1 q = I q) := by
  have k4 := hS.k 4 9 (by decide) (by decide)
  have hlen := hT.2.2.2.2.2.1
  have hb := h8.at p
  have hb1 := h8.at (p + 1)
  have q32 : nI (tp.getD p 0) = 32 ↔ tp.getD p 0 = 32 := nI_eq (b := 32) (by omega) (by decide)
  have q10 : nI (tp.getD p 0) = 10 ↔ tp.getD p 0 = 10 := nI_eq (b := 10) (by omega) (by decide)
  have q60 : nI (tp.getD p 0) = 60 ↔ tp.getD p 0 = 60 := nI_eq (b := 60) (by omega) (by decide)
  have q62 : nI (tp.getD p 0) = 62 ↔ tp.getD p 0 = 62 := nI_eq (b := 62) (by omega) (by decide)
  have q61 : nI (tp.getD (p + 1) 0) = 61 ↔ tp.getD (p + 1) 0 = 61 := nI_eq (b := 61) (by omega) (by decide)
  constructor
  · intro hbl
    refine cp_X9_scanOne k4 hT.1 ⟨_, t_at hT (by omega), fun e => ⟨by rw [nI_1], rfl⟩, fun e => ⟨fun e2 => ?_, fun e2 => ⟨by rw [nI_1], rfl⟩⟩⟩
    rw [q32] at e; rw [q10] at e2
    exact absurd hbl (fun z => z.elim e e2)
  · intro hbl
    by_cases hL : isLt (tp.getD p 0) = true
    · obtain ⟨I1, f1, f2, f3⟩ := sp_scanWord (g := g) (L := L) hS hT h8 hk hl hp hL
      exact ⟨I1, cp_X9_scanOne k4 hT.1 ⟨_, t_at hT (by omega), fun e => absurd (Or.inl (q32.mp e)) hbl, fun _ => ⟨fun _ => ⟨_, sp_isLt hb, fun e => absurd e (b2i_1 hL), fun _ => ⟨_, I1, L, f1, rfl, rfl⟩⟩, fun e => absurd (Or.inr (q10.mp e)) hbl⟩⟩, f2, f3⟩
    · by_cases hD : isDg (tp.getD p 0) = true
      · have et : tkF tp p = (19, numF tp 300 p 0, runF isDg tp 300 p) := by unfold tkF; rw [if_neg hL, if_pos hD]
        rw [et]
        obtain ⟨I1, f1, f2, f3⟩ := sn_8 (g := g) (L := L) hS hT h8 hk hl (show p < 1000 by omega) 300 p 0 0 (Nat.zero_add _) (Nat.le_refl _) (by decide)
        exact ⟨I1, cp_X9_scanOne k4 hT.1 ⟨_, t_at hT (by omega), fun e => absurd (Or.inl (q32.mp e)) hbl, fun _ => ⟨fun _ => ⟨_, sp_isLt hb, fun _ => ⟨_, sp_isDg hb, fun e => absurd e (b2i_1 hD), fun _ => ⟨_, I1, L, cp_X9_scanNumber k4 hT.1 f1, rfl, rfl⟩⟩, fun e => absurd (b2i_f hL) e⟩, fun e => absurd (Or.inr (q10.mp e)) hbl⟩⟩, f2, f3⟩
      · by_cases hw : (tp.getD p 0 = 60 ∨ tp.getD p 0 = 62) ∧ tp.getD (p + 1) 0 = 61
        · have et : tkF tp p = (sgnF (tp.getD p 0) + 1, 0, p + 2) := by unfold tkF; rw [if_neg hL, if_neg hD, if_pos hw]
          rw [et]
          obtain ⟨I1, n1, n2, n3⟩ := sp_note (g := g) (L := L) hS hk hl (sgnF (tp.getD p 0) + 1) p 0
          have l79 : Lp_X9_scanOne_79 g 9 4 (nI p) (nI (tp.getD p 0)) 1 (Z, I, L) (some (.int (nI (p + 2)))) (Z, I1, L) := wp_X9_scanOne_79 k4 ⟨_, sp_sign hb, fun e => absurd e (by decide), fun _ => ⟨I1, L, by rw [nI_1]; exact n1, fun e => absurd e (by decide), fun _ => ⟨by rw [← nI_add p 2]; rfl, rfl⟩⟩⟩
          refine ⟨I1, cp_X9_scanOne k4 hT.1 ⟨_, t_at hT (by omega), fun e => absurd (Or.inl (q32.mp e)) hbl, fun _ => ⟨fun _ => ⟨_, sp_isLt hb, fun _ => ⟨_, sp_isDg hb, fun _ => ⟨fun e => ?_, fun e => ⟨fun e2 => ?_, fun e2 => ?_⟩⟩, fun e => absurd (b2i_f hD) e⟩, fun e => absurd (b2i_f hL) e⟩, fun e => absurd (Or.inr (q10.mp e)) hbl⟩⟩, n2, n3⟩
          · rw [nI_1]
            exact ⟨_, t_at hT (by omega), fun z => absurd (q61.mpr hw.2) z, fun _ => l79⟩
          · exact absurd hw.1 (fun z => z.elim (fun y => e (q60.mpr y)) (fun y => e2 (q62.mpr y)))
          · rw [nI_1]
            exact ⟨_, t_at hT (by omega), fun z => absurd (q61.mpr hw.2) z, fun _ => l79⟩
        · have et : tkF tp p = (sgnF (tp.getD p 0), 0, p + 1) := by unfold tkF; rw [if_neg hL, if_neg hD, if_neg hw]
          rw [et]
          obtain ⟨I1, n1, n2, n3⟩ := sp_note (g := g) (L := L) hS hk hl (sgnF (tp.getD p 0)) p 0
          have l79 : Lp_X9_scanOne_79 g 9 4 (nI p) (nI (tp.getD p 0)) 0 (Z, I, L) (some (.int (nI (p + 1)))) (Z, I1, L) := wp_X9_scanOne_79 k4 ⟨_, sp_sign hb, fun _ => ⟨I1, L, n1, fun _ => ⟨by rw [nI_1], rfl⟩, fun e => absurd rfl e⟩, fun e => absurd rfl e⟩
          refine ⟨I1, cp_X9_scanOne k4 hT.1 ⟨_, t_at hT (by omega), fun e => absurd (Or.inl (q32.mp e)) hbl, fun _ => ⟨fun _ => ⟨_, sp_isLt hb, fun _ => ⟨_, sp_isDg hb, fun _ => ⟨fun e => ?_, fun e => ⟨fun e2 => l79, fun e2 => ?_⟩⟩, fun e => absurd (b2i_f hD) e⟩, fun e => absurd (b2i_f hL) e⟩, fun e => absurd (Or.inr (q10.mp e)) hbl⟩⟩, n2, n3⟩
          · rw [nI_1]
            exact ⟨_, t_at hT (by omega), fun _ => l79, fun z => absurd ⟨Or.inl (q60.mp e), q61.mp z⟩ hw⟩
          · rw [nI_1]
            exact ⟨_, t_at hT (by omega), fun _ => l79, fun z => absurd ⟨Or.inr (q62.mp e2), q61.mp z⟩ hw⟩
theorem tk_next {p : Nat} (hp : p < tp.length) : p < (tkF tp p).2.2 ∧ (tkF tp p).2.2 ≤ tp.length := by
  unfold tkF
  by_cases hL : isLt (tp.getD p 0) = true
  · rw [if_pos hL]
    refine ⟨?_, run_le (by decide) 300 p (by omega)⟩
    have e : runF isLt tp 300 p = runF isLt tp 299 (p + 1) := by
      show (if isLt (tp.getD p 0) then runF isLt tp 299 (p + 1) else p) = _
      rw [if_pos hL]
    show p < runF isLt tp 300 p
    rw [e]
    have := run_ge (f := isLt) (tp := tp) 299 (p + 1)
    omega
  · rw [if_neg hL]
    by_cases hD : isDg (tp.getD p 0) = true
    · rw [if_pos hD]
      refine ⟨?_, run_le (by decide) 300 p (by omega)⟩
      have e : runF isDg tp 300 p = runF isDg tp 299 (p + 1) := by
        show (if isDg (tp.getD p 0) then runF isDg tp 299 (p + 1) else p) = _
        rw [if_pos hD]
      show p < runF isDg tp 300 p
      rw [e]
      have := run_ge (f := isDg) (tp := tp) 299 (p + 1)
      omega
    · rw [if_neg hD]
      by_cases hw : (tp.getD p 0 = 60 ∨ tp.getD p 0 = 62) ∧ tp.getD (p + 1) 0 = 61
      · rw [if_pos hw]
        refine ⟨by show p < p + 2; omega, ?_⟩
        show p + 2 ≤ tp.length
        by_cases h1 : p + 1 < tp.length
        · omega
        · have := hw.2
          rw [List.getD_eq_getElem?_getD, List.getElem?_eq_none (by omega)] at this
          cases this
      · rw [if_neg hw]
        exact ⟨Nat.lt_succ_self _, hp⟩
theorem sc_28 (hS : Sh Z) (h8 : T8 tp) : ∀ (d p k : Nat) (I : Nat → Nat → Int32) (ts : List (Nat × Nat × Nat)), k + d = 300 → p ≤ tp.length → ts.length ≤ k → IL Z I 1 2 300 tp → TKz Z I ts → ∃ I1, Lp_X9_scan_28 g 10 4 1 (nI p) (nI k) (Z, I, L) none (Z, I1, L) ∧ TKz Z I1 (ts ++ scF tp d p) ∧ ∀ q, ¬ (5 ≤ q ∧ q ≤ 10) → I1 q = I q := by
  have k4 := hS.k 4 9 (by decide) (by decide)
  intro d
  induction d with
  | zero =>
    intro p k I ts hk hp hl hT hK
    obtain ⟨I1, n1, n2, n3⟩ := sp_note (g := g) (L := L) hS hK (by omega) 37 tp.length 0
    exact ⟨I1, wp_X9_scan_28 k4 hT.1 ⟨fun _ => ⟨_, sp_size hT, I1, L, n1, rfl, rfl⟩, fun e => absurd (nI_le (a := 300) (by omega) (by omega)) e⟩, n2, n3⟩
  | succ d ih =>
    intro p k I ts hk hp hl hT hK
    have hlen := hT.2.2.2.2.2.1
    have n300 : ¬ (300 : Int32) ≤ nI k := fun z => absurd ((nI_leI (a := 300) (by decide) (by omega)).mp z) (by omega)
    by_cases he : tp.length ≤ p
    · have es : scF tp (d + 1) p = [(37, tp.length, 0)] := by
        show (if tp.length ≤ p then _ else _) = _
        rw [if_pos he]
      rw [es]
      obtain ⟨I1, n1, n2, n3⟩ := sp_note (g := g) (L := L) hS hK (by omega) 37 tp.length 0
      exact ⟨I1, wp_X9_scan_28 k4 hT.1 ⟨fun z => absurd z n300, fun _ => ⟨_, sp_size hT, fun _ => ⟨_, sp_size hT, I1, L, n1, rfl, rfl⟩, fun z => absurd (nI_le he (by omega)) z⟩⟩, n2, n3⟩
    · have hp2 : p < tp.length := by omega
      obtain ⟨o1, o2⟩ := sp_scanOne (g := g) (L := L) hS hT h8 hK (by omega) hp2
      have nge : ¬ nI tp.length ≤ nI p := nI_ge hp2 (by omega)
      by_cases hb : tp.getD p 0 = 32 ∨ tp.getD p 0 = 10
      · have es : scF tp (d + 1) p = scF tp d (p + 1) := by
          show (if tp.length ≤ p then _ else if _ then _ else _) = _
          rw [if_neg he, if_pos hb]
        rw [es]
        obtain ⟨I1, f1, f2, f3⟩ := ih (p + 1) (k + 1) I ts (by omega) (by omega) (by omega) hT hK
        exact ⟨I1, wp_X9_scan_28 k4 hT.1 ⟨fun z => absurd z n300, fun _ => ⟨_, sp_size hT, fun z => absurd z nge, fun _ => ⟨_, I, L, o1 hb, fun y hy => by rw [hy, nI_1]; exact f1⟩⟩⟩, f2, f3⟩
      · have es : scF tp (d + 1) p = ((tkF tp p).1, p, (tkF tp p).2.1) :: scF tp d (tkF tp p).2.2 := by
          show (if tp.length ≤ p then _ else if _ then _ else _) = _
          rw [if_neg he, if_neg hb]
        rw [es]
        obtain ⟨J, g1, g2, g3⟩ := o2 hb
        obtain ⟨t1, t2⟩ := tk_next hp2
        obtain ⟨I1, f1, f2, f3⟩ := ih (tkF tp p).2.2 (k + 1) J _ (by omega) t2 (by rw [List.length_append, List.length_singleton]; omega) (hT.kept (by rw [g3 1 (by decide)]) (fun q _ => by rw [g3 2 (by decide)])) g2
        rw [List.append_assoc] at f2
        exact ⟨I1, wp_X9_scan_28 k4 hT.1 ⟨fun z => absurd z n300, fun _ => ⟨_, sp_size hT, fun z => absurd z nge, fun _ => ⟨_, J, L, g1, fun y hy => by rw [hy, nI_1]; exact f1⟩⟩⟩, f2, fun q hq => by rw [f3 q hq, g3 q hq]⟩
theorem sp_scan (hS : Sh Z) (hT : IL Z I 1 2 300 tp) (h8 : T8 tp) (hK : TKz Z I ts) : ∃ I1, Cl g 10 mu_X9_scan [rf g 4, rf g 1] (Z, I, L) none (Z, I1, L) ∧ TKz Z I1 (tkL tp) ∧ ∀ q, ¬ (5 ≤ q ∧ q ≤ 10) → I1 q = I q := by
  obtain ⟨k1, k2, k3⟩ := id hK
  obtain ⟨J1, a1, a2, a3⟩ := sp_cutTo (g := g) (L := L) k1 0
  obtain ⟨J2, b1, b2, b3⟩ := sp_cutTo (g := g) (L := L) (k2.kept (I1 := J1) (by rw [a3 7 (by decide)]) (fun q _ => by rw [a3 8 (by decide)])) 0
  obtain ⟨J3, c1, c2, c3⟩ := sp_cutTo (g := g) (L := L) (k3.kept (I1 := J2) (by rw [b3 9 (by decide), a3 9 (by decide)]) (fun q _ => by rw [b3 10 (by decide), a3 10 (by decide)])) 0
  have e0 : ∀ xs : List Nat, (if (0 : Int32) < 0 then [] else xs.take (0 : Int32).toNatClampNeg) = [] := fun xs => by
    rw [if_neg (by decide), show (0 : Int32).toNatClampNeg = 0 by decide, List.take_zero]
  rw [e0] at a2 b2 c2
  have hK3 : TKz Z J3 [] := ⟨a2.kept (by rw [c3 5 (by decide), b3 5 (by decide)]) (fun q _ => by rw [c3 6 (by decide), b3 6 (by decide)]), b2.kept (by rw [c3 7 (by decide)]) (fun q _ => by rw [c3 8 (by decide)]), c2⟩
  have hT3 : IL Z J3 1 2 300 tp := hT.kept (by rw [c3 1 (by decide), b3 1 (by decide), a3 1 (by decide)]) (fun q _ => by rw [c3 2 (by decide), b3 2 (by decide), a3 2 (by decide)])
  obtain ⟨I1, f1, f2, f3⟩ := sc_28 (g := g) (L := L) hS h8 300 0 0 J3 [] (Nat.zero_add _) (Nat.zero_le _) (Nat.le_refl _) hT3 hK3
  exact ⟨I1, cp_X9_scan (hS.k 4 9 (by decide) (by decide)) hT.1 (hS.r 4 0 5 (by decide)) (hS.k 5 2 (by decide) (by decide)) (hS.r 4 1 7 (by decide)) (hS.k 7 2 (by decide) (by decide)) (hS.r 4 2 9 (by decide)) (hS.k 9 2 (by decide) (by decide)) ⟨J1, L, a1, J2, L, b1, J3, L, c1, f1⟩, f2, fun q hq => by rw [f3 q hq, c3 q (by omega), b3 q (by omega), a3 q (by omega)]⟩
end SCAN2
