/-! odds(): the class's side -/
def LW (L : Nat → Nat → Int64) (a : Nat) (W : Nat → Nat) : Prop := ∀ i, i < 100 → L a i = nJ (W i)
theorem nI_J {n : Nat} (h : n < 2 ^ 31) : (nI n).toInt64 = nJ n := Int64.toInt_inj.mp (by rw [Int32.toInt_toInt64, nI_toInt h, nJ_toInt (by omega)])
theorem LW.add {L : Nat → Nat → Int64} {a s x : Nat} {A : Nat → Nat} (h : LW L a A) (hs : s < 100) : LW (rw1 L a (vp_updL (L a) s (L a s + nJ x))) a (addF A s x) := fun i hi => by
  rw [rw1_s]
  unfold vp_updL addF
  by_cases his : i = s
  · subst his
    rw [if_pos rfl, rw1_s, h i hi, nJ_add]
  · rw [if_neg his, rw1_n _ _ his]; exact h i hi
theorem LW.o {L : Nat → Nat → Int64} {a b : Nat} {f : Nat → Int64} {W : Nat → Nat} (h : LW L a W) (hab : a ≠ b) : LW (rw1 L b f) a W := fun i hi => by rw [rw1_n _ _ hab]; exact h i hi
section ODDS3
variable {g : GE} {Z : Zs} {I : Nat → Nat → Int32} {L : Nat → Nat → Int64} {w h : Nat} {S : Nat → List Nat} {tx : List TX}
theorem spF_app {K : List Nat} {t : TX} {tap m : Nat} {W : Nat → Nat} : ∀ (d1 d2 p : Nat) (A : Nat → Nat), spF w h K t tap m W (d1 + d2) p A = spF w h K t tap m W d2 (p + d1) (spF w h K t tap m W d1 p A) := by
  intro d1
  induction d1 with
  | zero => intro d2 p A; rw [Nat.zero_add]; rfl
  | succ d1 ih =>
    intro d2 p A
    rw [show d1 + 1 + d2 = (d1 + d2) + 1 by omega]
    show spF w h K t tap m W (d1 + d2) (p + 1) _ = spF w h K t tap m W d2 (p + (d1 + 1)) (spF w h K t tap m W d1 (p + 1) _)
    rw [ih, show p + 1 + d1 = p + (d1 + 1) by omega]
theorem spF_end {K : List Nat} {t : TX} {tap m : Nat} {W : Nat → Nat} (hP : onP w h S W) : ∀ (d p : Nat) (A : Nat → Nat), 4 * (w * h) ≤ p → spF w h K t tap m W d p A = A := by
  intro d
  induction d with
  | zero => intro p A hp; rfl
  | succ d ih =>
    intro p A hp
    have h0 : W p = 0 := Classical.byContradiction (fun hc => by
      have := (hP p hc).1
      omega)
    show spF w h K t tap m W d (p + 1) (if W p = 0 then A else _) = A
    rw [if_pos h0]
    exact ih (p + 1) A (by omega)
theorem spF_1 {K : List Nat} {t : TX} {tap m d p : Nat} {W A : Nat → Nat} (h0 : ¬ W p = 0) : spF w h K t tap m W (d + 1) p A = spF w h K t tap m W d (p + 1) (addF (addF A (stepF w h K t p tap % 200) (W p * (10 - m))) (stepF w h K t p ((tap + 1) % 4) % 200) (W p * m)) := by
  show spF w h K t tap m W d (p + 1) (if W p = 0 then A else _) = _
  rw [if_neg h0]
theorem spF_0 {K : List Nat} {t : TX} {tap m d p : Nat} {W A : Nat → Nat} (h0 : W p = 0) : spF w h K t tap m W (d + 1) p A = spF w h K t tap m W d (p + 1) A := by
  show spF w h K t tap m W d (p + 1) (if W p = 0 then A else _) = _
  rw [if_pos h0]
/-- Arrays.fill of longs -/
theorem fl_run {a n : Nat} {v : Int64} (ka : KM Z a 14) (hn : Z.2.2.1 a = n) (hb : n < 2 ^ 31) : ∀ (m j : Nat) (L : Nat → Nat → Int64), j + m = n → Lp_J7_fill_d0a16_6 g 1 a v (nI j) (nI n) (Z, I, L) none (Z, I, rw1 L a (fun q => if j ≤ q ∧ q < n then v else L a q)) := by
  intro m
  induction m with
  | zero =>
    intro j L hj
    have hj : j = n := hj
    subst hj
    refine wp_J7_fill_d0a16_6 ka ⟨fun _ => ⟨rfl, ?_⟩, fun e => absurd (nI_le (Nat.le_refl _) hb) e⟩
    have : rw1 L a (fun q => if j ≤ q ∧ q < j then v else L a q) = L := by
      funext x
      unfold rw1
      split
      · rename_i hx; subst hx; funext q; rw [if_neg (by omega)]
      · rfl
    rw [this]
  | succ m ih =>
    intro j L hj
    refine wp_J7_fill_d0a16_6 ka ⟨fun e => absurd e (nI_ge (by omega) hb), fun _ => ⟨by rw [hn]; exact vp_in_nI (by omega) hb, fun L2 hL2 y hy => ?_⟩⟩
    rw [hy, nI_1]
    have := ih (j + 1) L2 (by omega)
    have e : rw1 L2 a (fun q => if j + 1 ≤ q ∧ q < n then v else L2 a q) = rw1 L a (fun q => if j ≤ q ∧ q < n then v else L a q) := by
      rw [hL2, nI_clamp (by omega)]
      funext x
      unfold rw1
      split
      · funext q
        simp only [if_true]
        unfold vp_updL
        by_cases hq : q = j
        · subst hq; rw [if_neg (by omega), if_pos rfl, if_pos ⟨by omega, by omega⟩]
        · by_cases h2 : j + 1 ≤ q ∧ q < n
          · rw [if_pos h2, if_pos ⟨by omega, h2.2⟩]
          · rw [if_neg h2, if_neg hq, if_neg (by omega)]
      · rfl
    rw [e] at this
    exact this
theorem sp_fillL {a n : Nat} {v : Int64} (ka : KM Z a 14) (hn : Z.2.2.1 a = n) (hb : n < 2 ^ 31) : Cl g 1 mu_J7_fill_d0a16 [rf g a, .long v] (Z, I, L) none (Z, I, rw1 L a (fun q => if q < n then v else L a q)) := by
  refine cp_J7_fill_d0a16 ka (fun y hy => ?_)
  rw [hy, hn]
  have := fl_run (g := g) (I := I) (v := v) ka hn hb n 0 L (Nat.zero_add _)
  simp only [Nat.zero_le, true_and] at this
  exact this
theorem sb_run {hb : Nat} {t : TX} (htx : tx[hb]? = some t) {tap m : Nat} (ht : tap < 4) (hm10 : m ≤ 10) {W : Nat → Nat} (hP : onP w h S W) (hB : ∀ i, W i < 2 ^ 62) : ∀ (d p : Nat) (A : Nat → Nat) (I : Nat → Nat → Int32) (L : Nat → Nat → Int64), CL Z I w h S tx → LW L 16 W → LW L 17 A → p + d = 4 * (w * h) →
    ∃ I1 L1, Lp_X11_spreadBy_11 g 6 0 (nI hb) (nI tap) (nI m) (nI p) (Z, I, L) none (Z, I1, L1) ∧ CL Z I1 w h S tx ∧ LW L1 16 (spF w h (S 0) t tap m W d p A) ∧ ∀ a, ¬ nowA a → I1 a = I a := by
  intro d
  induction d with
  | zero =>
    intro p A I L c h16 h17 hp
    obtain ⟨k, hW, -⟩ := id c
    have hm := k.2.1.mul
    have n16 := k.1.n 16 100 (by decide)
    have n17 := k.1.n 17 100 (by decide)
    refine ⟨I, rw1 L 16 (va_cpy (L 17) (L 16) 0 0 100), wp_X11_spreadBy_11 (k.1.k 0 11 (by decide) (by decide)) (k.1.r 0 0 18 (by decide)) (k.1.k 18 8 (by decide) (by decide)) (k.1.r 0 9 17 (by decide)) (k.1.k 17 14 (by decide) (by decide)) (k.1.r 0 8 16 (by decide)) (k.1.k 16 14 (by decide) (by decide)) (k.1.r 0 5 66 (by decide)) (k.1.k 66 3 (by decide) (by decide)) ⟨_, sp_posesInAll k, fun _ => ?_, fun e => absurd (nI_le (show 4 * (w * h) ≤ p by omega) (by omega)) e⟩, c, fun i hi => ?_, fun _ _ => rfl⟩
    · rw [n16, n17, nI_clamp (show 100 < 2 ^ 31 by decide)]
      refine ⟨by decide, by decide, nI_pos (by decide), by decide, by decide, fun L4 h4 => ⟨rfl, ?_⟩⟩
      rw [h4]; rfl
    · rw [rw1_s]
      unfold va_cpy
      rw [if_pos ⟨by omega, by omega⟩, show 0 + (i - 0) = i by omega]
      exact h17 i hi
  | succ d ih =>
    intro p A I L c h16 h17 hp
    obtain ⟨k, hW, -⟩ := id c
    have hm := k.2.1.mul
    have mk := fun (r : Option Value) (M' : Mem) => @wp_X11_spreadBy_11 g Z I L r M' 0 (nI hb) (nI tap) (nI m) (nI p) 18 17 16 66 (k.1.k 0 11 (by decide) (by decide)) (k.1.r 0 0 18 (by decide)) (k.1.k 18 8 (by decide) (by decide)) (k.1.r 0 9 17 (by decide)) (k.1.k 17 14 (by decide) (by decide)) (k.1.r 0 8 16 (by decide)) (k.1.k 16 14 (by decide) (by decide)) (k.1.r 0 5 66 (by decide)) (k.1.k 66 3 (by decide) (by decide))
    have ge : ¬ nI (4 * (w * h)) ≤ nI p := nI_ge (by omega) (by omega)
    have v16 : ∀ {j : Nat}, j < 100 → vp_in (nI j) (Z.2.2.1 16) := fun hj => by rw [k.1.n 16 100 (by decide)]; exact vp_in_nI hj (by decide)
    have v17 : ∀ {j : Nat}, j < 100 → vp_in (nI j) (Z.2.2.1 17) := fun hj => by rw [k.1.n 17 100 (by decide)]; exact vp_in_nI hj (by decide)
    have eW : ∀ {L2 : Nat → Nat → Int64}, LW L2 16 W → L2 16 (nI p).toNatClampNeg = nJ (W p) := fun hL => by rw [nI_clamp (by omega)]; exact hL p (by omega)
    by_cases h0 : W p = 0
    · obtain ⟨I1, L1, e1, e2, e3, e4⟩ := ih (p + 1) A I L c h16 h17 (by omega)
      rw [spF_0 h0]
      refine ⟨I1, L1, mk _ _ ⟨_, sp_posesInAll k, fun e => absurd e ge, fun _ => ⟨v16 (by omega), fun _ y hy => by rw [hy, nI_1]; exact e1, fun e => absurd ?_ e⟩⟩, e2, e3, e4⟩
      rw [lg_cmp_eq, eW h16, h0]; rfl
    · have hPp := hP p h0
      have hp1 := hPp.1
      have q1 := (step_isP (tap := tap) (t := t) k.2.1 hW hPp).1
      have q2 := (step_isP (tap := (tap + 1) % 4) (t := t) k.2.1 hW hPp).1
      have s1 := stepF_lt (K := S 0) (t := t) (tap := tap) k.2.1 hp1
      have s2 := stepF_lt (K := S 0) (t := t) (tap := (tap + 1) % 4) k.2.1 hp1
      have eT : (nI tap + 1) - (nI tap + 1) / 4 * 4 = nI ((tap + 1) % 4) := by rw [nI_1]; exact pk_rem (d := 4) (by omega) (by decide) (by decide)
      have eA : (10 - nI m).toInt64 = nJ (10 - m) := by rw [show (10 : Int32) - nI m = nI (10 - m) from pk_sub (a := 10) hm10, nI_J (by omega)]
      have eM : (nI m).toInt64 = nJ m := nI_J (by omega)
      obtain ⟨I2, d1, d2, d3⟩ := sp_step (g := g) (L := L) c htx hp1 ht
      obtain ⟨a1, ha1⟩ : ∃ a1, a1 = stepF w h (S 0) t p tap % 200 := ⟨_, rfl⟩
      obtain ⟨a2, ha2⟩ : ∃ a2, a2 = stepF w h (S 0) t p ((tap + 1) % 4) % 200 := ⟨_, rfl⟩
      rw [← ha1] at q1
      rw [← ha2] at q2
      obtain ⟨L2, hL2⟩ : ∃ L2, L2 = rw1 L 17 (vp_updL (L 17) a1 (L 17 a1 + nJ (W p * (10 - m)))) := ⟨_, rfl⟩
      have h16' : LW L2 16 W := by rw [hL2]; exact h16.o (by decide)
      have h17' : LW L2 17 (addF A a1 (W p * (10 - m))) := by rw [hL2]; exact h17.add (by omega)
      obtain ⟨I3, f1, f2, f3⟩ := sp_step (g := g) (L := L2) d2 htx hp1 (show (tap + 1) % 4 < 4 by omega)
      obtain ⟨L3, hL3⟩ : ∃ L3, L3 = rw1 L2 17 (vp_updL (L2 17) a2 (L2 17 a2 + nJ (W p * m))) := ⟨_, rfl⟩
      have h16'' : LW L3 16 W := by rw [hL3]; exact h16'.o (by decide)
      have h17'' : LW L3 17 (addF (addF A a1 (W p * (10 - m))) a2 (W p * m)) := by rw [hL3]; exact h17'.add (by omega)
      obtain ⟨I1, L1, e1, e2, e3, e4⟩ := ih (p + 1) _ I3 L3 f2 h16'' h17'' (by omega)
      rw [spF_1 h0, ← ha1, ← ha2]
      have po1 := sp_poseOf (g := g) (Z := Z) (I := I2) (L := L) (n := stepF w h (S 0) t p tap) (by omega)
      have po2 := sp_poseOf (g := g) (Z := Z) (I := I3) (L := L2) (n := stepF w h (S 0) t p ((tap + 1) % 4)) (by omega)
      rw [← ha1] at po1
      rw [← ha2] at po2
      refine ⟨I1, L1, mk _ _ ⟨_, sp_posesInAll k, fun e => absurd e ge, fun _ => ⟨v16 (by omega), fun e => absurd ?_ h0, fun _ => ⟨_, I2, L, d1, _, po1, v17 (by omega), v16 (by omega), v17 (by omega), fun L16 hL16 => ?_⟩⟩⟩, e2, e3, fun a ha => ?_⟩
      · rw [lg_cmp_eq, eW h16] at e
        exact (nJ_0 (show W p < 2 ^ 63 by have := hB p; omega)).mp e
      · rw [nI_clamp (show a1 < 2 ^ 31 by omega), eW h16, eA, nJ_mul, ← hL2] at hL16
        rw [hL16, eT]
        refine ⟨_, I3, L2, f1, _, po2, v17 (by omega), v16 (by omega), v17 (by omega), fun L26 hL26 y hy => ?_⟩
        rw [nI_clamp (show a2 < 2 ^ 31 by omega), eW h16', eM, nJ_mul, ← hL3] at hL26
        rw [hL26, hy, nI_1]
        exact e1
      · rw [e4 a ha, f3 a (by unfold nowA at ha; omega) (by unfold nowA at ha; omega) (by unfold nowA at ha; omega) (by unfold nowA at ha; omega), d3 a (by unfold nowA at ha; omega) (by unfold nowA at ha; omega) (by unfold nowA at ha; omega) (by unfold nowA at ha; omega)]
theorem sp_spreadBy (c : CL Z I w h S tx) {hb : Nat} {t : TX} (htx : tx[hb]? = some t) {tap m : Nat} (ht : tap < 4) (hm10 : m ≤ 10) {W : Nat → Nat} (hP : onP w h S W) (hB : ∀ i, W i < 2 ^ 62) (h16 : LW L 16 W) : ∃ I1 L1, Cl g 6 mu_X11_spreadBy [rf g 0, .int (nI hb), .int (nI tap), .int (nI m)] (Z, I, L) none (Z, I1, L1) ∧ CL Z I1 w h S tx ∧ LW L1 16 (spF w h (S 0) t tap m W 100 0 (fun _ => 0)) ∧ ∀ a, ¬ nowA a → I1 a = I a := by
  obtain ⟨k, hW, -⟩ := id c
  have hm := k.2.1.mul
  obtain ⟨L2, hL2⟩ : ∃ L2, L2 = rw1 L 17 (fun q => if q < 100 then 0 else L 17 q) := ⟨_, rfl⟩
  have fl := sp_fillL (g := g) (I := I) (L := L) (v := 0) (k.1.k 17 14 (by decide) (by decide)) (k.1.n 17 100 (by decide)) (by decide)
  rw [← hL2] at fl
  obtain ⟨I1, L1, e1, e2, e3, e4⟩ := sb_run (g := g) htx ht hm10 hP hB (4 * (w * h)) 0 (fun _ => 0) I L2 c (by rw [hL2]; exact h16.o (by decide)) (fun i hi => by rw [hL2, rw1_s, if_pos hi]; rfl) (Nat.zero_add _)
  refine ⟨I1, L1, cp_X11_spreadBy (k.1.k 0 11 (by decide) (by decide)) (k.1.r 0 9 17 (by decide)) (k.1.k 17 14 (by decide) (by decide)) ⟨I, L2, fl, e1⟩, e2, ?_, e4⟩
  rw [show 100 = 4 * (w * h) + (100 - 4 * (w * h)) by omega, spF_app, spF_end hP _ _ _ (by omega)]
  exact e3
end ODDS3
