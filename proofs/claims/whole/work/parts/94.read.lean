/-! the class's reader, whole -/
def hbz (m n : Nat) : Nat := 5 * n + (if m = 0 then 5 else if m = 1 then 4 else if m = 2 then 4 else if m = 3 then 3 else if m = 4 then 3 else if m = 5 then 2 else if m = 6 then 1 else if m = 7 then 1 else 0)
def dpz (m n : Nat) : Nat := 5 + 8 * (8 - n) + (if m = 0 then 0 else if m = 1 then 1 else if m = 2 then 1 else if m = 3 then 2 else if m = 4 then 2 else if m = 5 then 3 else if m = 6 then 4 else if m = 7 then 4 else 5)
def rkz (m : Nat) : Nat := if m = 0 then 0 else if m = 2 then 1 else if m = 1 then 2 else if m = 4 then 3 else if m = 3 then 4 else if m = 5 then 5 else if m = 7 then 6 else if m = 6 then 7 else if m = 9 then 8 else 9
def lpz (m : Nat) : Bool := decide (m = 2 ∨ m = 4 ∨ m = 7 ∨ m = 9)
def RNz (g : GE) (d m k : Nat) (M M' : Mem) : Prop := if m = 0 then Cl g d mu_X5_readOne [rf g 3] M none M' else if m = 1 then Cl g d mu_X5_readProduct [rf g 3] M none M' else if m = 2 then Lp_X5_readProduct_6 g d 3 (nI k) M none M' else if m = 3 then Cl g d mu_X5_readSum [rf g 3] M none M' else if m = 4 then Lp_X5_readSum_6 g d 3 (nI k) M none M' else if m = 5 then Cl g d mu_X5_readAsk [rf g 3] M none M' else if m = 6 then Cl g d mu_X5_readBoth [rf g 3] M none M' else if m = 7 then Lp_X5_readBoth_6 g d 3 (nI k) M none M' else if m = 8 then Cl g d mu_X5_readEither [rf g 3] M none M' else Lp_X5_readEither_6 g d 3 (nI k) M none M'
/-- the class reads as the meaning says -/
def OKz (g : GE) (Z : Zs) (L : Nat → Nat → Int64) (ts : List (Nat × Nat × Nat)) (cl d m k n i : Nat) (a : EF) (ords : List Nat) (I : Nat → Nat → Int32) (res : PR) : Prop := match res with
  | .inl q => ∃ I1, RNz g d m k (Z, I, L) (Z, I1, L) ∧ FDz Z I1 ts q.1 q.2 ∧ q.2 < ts.length ∧ FDr I I1
  | .inr q => ∃ I1 seg, RNz g d m k (Z, I, L) (Z, I1, L) ∧ RDz Z I1 ts cl q.2 n (ords ++ seg) ∧ FDr I I1 ∧ i + (if lpz m then 0 else 1) ≤ q.2 ∧ q.2 < ts.length ∧ seg.length ≤ 2 * (q.2 - i) ∧ SGz ords.length seg (hbz m n) (if lpz m then some a else none) q.1
def CNd (Z : Zs) (I : Nat → Nat → Int32) (ts : List (Nat × Nat × Nat)) (cl u d m k n i : Nat) (ords : List Nat) : Prop := m ≤ 9 ∧ RDz Z I ts cl i n ords ∧ ords.length ≤ 2 * i ∧ k ≤ i ∧ dpz m n ≤ d ∧ n ≤ 8 ∧ i < ts.length ∧ (ts.length - i) * 10 + rkz m < u
def IHz (g : GE) (Z : Zs) (L : Nat → Nat → Int64) (ts : List (Nat × Nat × Nat)) (cl u : Nat) : Prop := ∀ (m n i : Nat) (a : EF) (ords : List Nat) (I : Nat → Nat → Int32) (d k : Nat), CNd Z I ts cl u d m k n i ords → OKz g Z L ts cl d m k n i a ords I (prF (kT ts) (vT ts) (decide (cl = 13)) u m n i a)
theorem bnd_inl {x : PR} {k : EF → Nat → PR} {e : Nat × Nat} (h : x = .inl e) : bnd x k = .inl e := by rw [h]; rfl
theorem bnd_inr {x : PR} {k : EF → Nat → PR} {f : EF} {j : Nat} (h : x = .inr (f, j)) : bnd x k = k f j := by rw [h]; rfl
/-- a token that is there and isn't the end has a next one -/
theorem TSz.nx {ts : List (Nat × Nat × Nat)} (h : TSz ts) {i : Nat} (hi : i < ts.length) (hk : kT ts i ≠ 37) : i + 1 < ts.length := by
  have h1 := h.1
  by_cases he : i = ts.length - 1
  · rw [he, h.2.2.1] at hk; exact absurd rfl hk
  · omega
section RDA
variable {g : GE} {Z : Zs} {L : Nat → Nat → Int64} {ts : List (Nat × Nat × Nat)} {cl u : Nat}
theorem RDz.k {I : Nat → Nat → Int32} {i n : Nat} {ords : List Nat} (h : RDz Z I ts cl i n ords) (hT : TSz ts) {x : Nat} (hx : x < 2 ^ 31) : I 3 5 = nI x ↔ kT ts i = x := by
  have := hT.2.2.2.1 i
  rw [h.2.2.1]; exact nI_eq (by omega) hx
theorem st_1 (hS : Sh Z) (hT : TSz ts) (ih : IHz g Z L ts cl u) {n i : Nat} {a : EF} {ords : List Nat} {I : Nat → Nat → Int32} {d k : Nat} (h : CNd Z I ts cl (u + 1) d 1 k n i ords) : OKz g Z L ts cl d 1 k n i a ords I (prF (kT ts) (vT ts) (decide (cl = 13)) (u + 1) 1 n i a) := by
  obtain ⟨-, hr, ho, hk, hd, hn, hi, hu⟩ := h
  have hd : 5 + 8 * (8 - n) + 1 ≤ d := hd
  have hu : (ts.length - i) * 10 + 2 < u + 1 := hu
  show OKz g Z L ts cl d 1 k n i a ords I (bnd (prF (kT ts) (vT ts) (decide (cl = 13)) u 0 n i a) (fun f j => prF (kT ts) (vT ts) (decide (cl = 13)) u 2 n j f))
  have h1 := ih 0 n i a ords I (d - 1) 0 ⟨by decide, hr, ho, Nat.zero_le _, by show 5 + 8 * (8 - n) + 0 ≤ d - 1; omega, hn, hi, by show (ts.length - i) * 10 + 0 < u; omega⟩
  cases hx : prF (kT ts) (vT ts) (decide (cl = 13)) u 0 n i a with
  | inl q =>
    rw [hx] at h1
    obtain ⟨J, r1, r2, r3, r4⟩ := h1
    rw [bnd_inl rfl]
    have r1 : Cl g (d - 1) mu_X5_readOne [rf g 3] (Z, I, L) none (Z, J, L) := r1
    refine ⟨J, cp_X5_readProduct (d := d) (dc := d - 1) (by omega) (by omega) (hS.k 3 5 (by decide) (by decide)) ⟨J, L, r1, wp_X5_readProduct_6 (d := d) (dc := d - 1) (by omega) (by omega) (hS.k 3 5 (by decide) (by decide)) ⟨fun e => absurd e (by decide), fun _ => ⟨fun e => absurd e (r2.k (x := 29) (by decide) (by decide)), fun _ => ⟨fun _ => ⟨rfl, rfl⟩, fun e => absurd e (r2.k (x := 30) (by decide) (by decide))⟩⟩⟩⟩, r2, r3, r4⟩
  | inr q =>
    obtain ⟨F, j⟩ := q
    rw [hx] at h1
    obtain ⟨J, seg, r1, r2, r3, r4, r5, r6, r7⟩ := h1
    rw [bnd_inr rfl]
    have r1 : Cl g (d - 1) mu_X5_readOne [rf g 3] (Z, I, L) none (Z, J, L) := r1
    have r4 : i + 1 ≤ j := r4
    have r5 : j < ts.length := r5
    have r6 : seg.length ≤ 2 * (j - i) := r6
    have len : (ords ++ seg).length = ords.length + seg.length := List.length_append
    have h2 := ih 2 n j F (ords ++ seg) J d 0 ⟨by decide, r2, by omega, Nat.zero_le _, by show 5 + 8 * (8 - n) + 1 ≤ d; omega, hn, r5, by show (ts.length - j) * 10 + 1 < u; omega⟩
    cases hy : prF (kT ts) (vT ts) (decide (cl = 13)) u 2 n j F with
    | inl q =>
      rw [hy] at h2
      obtain ⟨I1, t1, t2, t3, t4⟩ := h2
      exact ⟨I1, cp_X5_readProduct (d := d) (dc := d - 1) (by omega) (by omega) (hS.k 3 5 (by decide) (by decide)) ⟨J, L, r1, t1⟩, t2, t3, r3.trans t4⟩
    | inr q =>
      obtain ⟨G, j2⟩ := q
      rw [hy] at h2
      obtain ⟨I1, seg2, t1, t2, t3, t4, t5, t6, t7⟩ := h2
      have t4 : j + 0 ≤ j2 := t4
      have t6 : seg2.length ≤ 2 * (j2 - j) := t6
      refine ⟨I1, seg ++ seg2, cp_X5_readProduct (d := d) (dc := d - 1) (by omega) (by omega) (hS.k 3 5 (by decide) (by decide)) ⟨J, L, r1, t1⟩, by rw [← List.append_assoc]; exact t2, r3.trans t3, by show i + 1 ≤ j2; omega, t5, by show (seg ++ seg2).length ≤ 2 * (j2 - i); rw [List.length_append]; omega, ?_⟩
      have r7 : SGz ords.length seg (5 * n + 5) none F := r7
      rw [len] at t7
      have t7 : SGz (ords.length + seg.length) seg2 (5 * n + 4) (some F) G := t7
      show SGz ords.length (seg ++ seg2) (5 * n + 4) none G
      exact sg_seq (sg_less (h2 := 5 * n + 4) r7 (by omega)) t7 (Nat.le_refl _)
theorem st_3 (hS : Sh Z) (hT : TSz ts) (ih : IHz g Z L ts cl u) {n i : Nat} {a : EF} {ords : List Nat} {I : Nat → Nat → Int32} {d k : Nat} (h : CNd Z I ts cl (u + 1) d 3 k n i ords) : OKz g Z L ts cl d 3 k n i a ords I (prF (kT ts) (vT ts) (decide (cl = 13)) (u + 1) 3 n i a) := by
  obtain ⟨-, hr, ho, hk, hd, hn, hi, hu⟩ := h
  have hd : 5 + 8 * (8 - n) + 2 ≤ d := hd
  have hu : (ts.length - i) * 10 + 4 < u + 1 := hu
  show OKz g Z L ts cl d 3 k n i a ords I (bnd (prF (kT ts) (vT ts) (decide (cl = 13)) u 1 n i a) (fun f j => prF (kT ts) (vT ts) (decide (cl = 13)) u 4 n j f))
  have h1 := ih 1 n i a ords I (d - 1) 0 ⟨by decide, hr, ho, Nat.zero_le _, by show 5 + 8 * (8 - n) + 1 ≤ d - 1; omega, hn, hi, by show (ts.length - i) * 10 + 2 < u; omega⟩
  cases hx : prF (kT ts) (vT ts) (decide (cl = 13)) u 1 n i a with
  | inl q =>
    rw [hx] at h1
    obtain ⟨J, r1, r2, r3, r4⟩ := h1
    rw [bnd_inl rfl]
    have r1 : Cl g (d - 1) mu_X5_readProduct [rf g 3] (Z, I, L) none (Z, J, L) := r1
    refine ⟨J, cp_X5_readSum (d := d) (dc := d - 1) (by omega) (by omega) (hS.k 3 5 (by decide) (by decide)) ⟨J, L, r1, wp_X5_readSum_6 (d := d) (dc := d - 1) (by omega) (by omega) (hS.k 3 5 (by decide) (by decide)) ⟨fun e => absurd e (by decide), fun _ => ⟨fun e => absurd e (r2.k (x := 27) (by decide) (by decide)), fun _ => ⟨fun _ => ⟨rfl, rfl⟩, fun e => absurd e (r2.k (x := 28) (by decide) (by decide))⟩⟩⟩⟩, r2, r3, r4⟩
  | inr q =>
    obtain ⟨F, j⟩ := q
    rw [hx] at h1
    obtain ⟨J, seg, r1, r2, r3, r4, r5, r6, r7⟩ := h1
    rw [bnd_inr rfl]
    have r1 : Cl g (d - 1) mu_X5_readProduct [rf g 3] (Z, I, L) none (Z, J, L) := r1
    have r4 : i + 1 ≤ j := r4
    have r5 : j < ts.length := r5
    have r6 : seg.length ≤ 2 * (j - i) := r6
    have len : (ords ++ seg).length = ords.length + seg.length := List.length_append
    have h2 := ih 4 n j F (ords ++ seg) J d 0 ⟨by decide, r2, by omega, Nat.zero_le _, by show 5 + 8 * (8 - n) + 2 ≤ d; omega, hn, r5, by show (ts.length - j) * 10 + 3 < u; omega⟩
    cases hy : prF (kT ts) (vT ts) (decide (cl = 13)) u 4 n j F with
    | inl q =>
      rw [hy] at h2
      obtain ⟨I1, t1, t2, t3, t4⟩ := h2
      exact ⟨I1, cp_X5_readSum (d := d) (dc := d - 1) (by omega) (by omega) (hS.k 3 5 (by decide) (by decide)) ⟨J, L, r1, t1⟩, t2, t3, r3.trans t4⟩
    | inr q =>
      obtain ⟨G, j2⟩ := q
      rw [hy] at h2
      obtain ⟨I1, seg2, t1, t2, t3, t4, t5, t6, t7⟩ := h2
      have t4 : j + 0 ≤ j2 := t4
      have t6 : seg2.length ≤ 2 * (j2 - j) := t6
      refine ⟨I1, seg ++ seg2, cp_X5_readSum (d := d) (dc := d - 1) (by omega) (by omega) (hS.k 3 5 (by decide) (by decide)) ⟨J, L, r1, t1⟩, by rw [← List.append_assoc]; exact t2, r3.trans t3, by show i + 1 ≤ j2; omega, t5, by show (seg ++ seg2).length ≤ 2 * (j2 - i); rw [List.length_append]; omega, ?_⟩
      have r7 : SGz ords.length seg (5 * n + 4) none F := r7
      rw [len] at t7
      have t7 : SGz (ords.length + seg.length) seg2 (5 * n + 3) (some F) G := t7
      show SGz ords.length (seg ++ seg2) (5 * n + 3) none G
      exact sg_seq (sg_less (h2 := 5 * n + 3) r7 (by omega)) t7 (Nat.le_refl _)
theorem st_6 (hS : Sh Z) (hT : TSz ts) (ih : IHz g Z L ts cl u) {n i : Nat} {a : EF} {ords : List Nat} {I : Nat → Nat → Int32} {d k : Nat} (h : CNd Z I ts cl (u + 1) d 6 k n i ords) : OKz g Z L ts cl d 6 k n i a ords I (prF (kT ts) (vT ts) (decide (cl = 13)) (u + 1) 6 n i a) := by
  obtain ⟨-, hr, ho, hk, hd, hn, hi, hu⟩ := h
  have hd : 5 + 8 * (8 - n) + 4 ≤ d := hd
  have hu : (ts.length - i) * 10 + 7 < u + 1 := hu
  show OKz g Z L ts cl d 6 k n i a ords I (bnd (prF (kT ts) (vT ts) (decide (cl = 13)) u 5 n i a) (fun f j => prF (kT ts) (vT ts) (decide (cl = 13)) u 7 n j f))
  have h1 := ih 5 n i a ords I (d - 1) 0 ⟨by decide, hr, ho, Nat.zero_le _, by show 5 + 8 * (8 - n) + 3 ≤ d - 1; omega, hn, hi, by show (ts.length - i) * 10 + 5 < u; omega⟩
  cases hx : prF (kT ts) (vT ts) (decide (cl = 13)) u 5 n i a with
  | inl q =>
    rw [hx] at h1
    obtain ⟨J, r1, r2, r3, r4⟩ := h1
    rw [bnd_inl rfl]
    have r1 : Cl g (d - 1) mu_X5_readAsk [rf g 3] (Z, I, L) none (Z, J, L) := r1
    refine ⟨J, cp_X5_readBoth (d := d) (dc := d - 1) (by omega) (by omega) (hS.k 3 5 (by decide) (by decide)) ⟨J, L, r1, wp_X5_readBoth_6 (d := d) (dc := d - 1) (by omega) (by omega) (hS.k 3 5 (by decide) (by decide)) ⟨fun e => absurd e (by decide), fun _ => ⟨fun _ => ⟨rfl, rfl⟩, fun e => absurd e (r2.k (x := 17) (by decide) (by decide))⟩⟩⟩, r2, r3, r4⟩
  | inr q =>
    obtain ⟨F, j⟩ := q
    rw [hx] at h1
    obtain ⟨J, seg, r1, r2, r3, r4, r5, r6, r7⟩ := h1
    rw [bnd_inr rfl]
    have r1 : Cl g (d - 1) mu_X5_readAsk [rf g 3] (Z, I, L) none (Z, J, L) := r1
    have r4 : i + 1 ≤ j := r4
    have r5 : j < ts.length := r5
    have r6 : seg.length ≤ 2 * (j - i) := r6
    have len : (ords ++ seg).length = ords.length + seg.length := List.length_append
    have h2 := ih 7 n j F (ords ++ seg) J d 0 ⟨by decide, r2, by omega, Nat.zero_le _, by show 5 + 8 * (8 - n) + 4 ≤ d; omega, hn, r5, by show (ts.length - j) * 10 + 6 < u; omega⟩
    cases hy : prF (kT ts) (vT ts) (decide (cl = 13)) u 7 n j F with
    | inl q =>
      rw [hy] at h2
      obtain ⟨I1, t1, t2, t3, t4⟩ := h2
      exact ⟨I1, cp_X5_readBoth (d := d) (dc := d - 1) (by omega) (by omega) (hS.k 3 5 (by decide) (by decide)) ⟨J, L, r1, t1⟩, t2, t3, r3.trans t4⟩
    | inr q =>
      obtain ⟨G, j2⟩ := q
      rw [hy] at h2
      obtain ⟨I1, seg2, t1, t2, t3, t4, t5, t6, t7⟩ := h2
      have t4 : j + 0 ≤ j2 := t4
      have t6 : seg2.length ≤ 2 * (j2 - j) := t6
      refine ⟨I1, seg ++ seg2, cp_X5_readBoth (d := d) (dc := d - 1) (by omega) (by omega) (hS.k 3 5 (by decide) (by decide)) ⟨J, L, r1, t1⟩, by rw [← List.append_assoc]; exact t2, r3.trans t3, by show i + 1 ≤ j2; omega, t5, by show (seg ++ seg2).length ≤ 2 * (j2 - i); rw [List.length_append]; omega, ?_⟩
      have r7 : SGz ords.length seg (5 * n + 2) none F := r7
      rw [len] at t7
      have t7 : SGz (ords.length + seg.length) seg2 (5 * n + 1) (some F) G := t7
      show SGz ords.length (seg ++ seg2) (5 * n + 1) none G
      exact sg_seq (sg_less (h2 := 5 * n + 1) r7 (by omega)) t7 (Nat.le_refl _)
theorem st_8 (hS : Sh Z) (hT : TSz ts) (ih : IHz g Z L ts cl u) {n i : Nat} {a : EF} {ords : List Nat} {I : Nat → Nat → Int32} {d k : Nat} (h : CNd Z I ts cl (u + 1) d 8 k n i ords) : OKz g Z L ts cl d 8 k n i a ords I (prF (kT ts) (vT ts) (decide (cl = 13)) (u + 1) 8 n i a) := by
  obtain ⟨-, hr, ho, hk, hd, hn, hi, hu⟩ := h
  have hd : 5 + 8 * (8 - n) + 5 ≤ d := hd
  have hu : (ts.length - i) * 10 + 9 < u + 1 := hu
  show OKz g Z L ts cl d 8 k n i a ords I (bnd (prF (kT ts) (vT ts) (decide (cl = 13)) u 6 n i a) (fun f j => prF (kT ts) (vT ts) (decide (cl = 13)) u 9 n j f))
  have h1 := ih 6 n i a ords I (d - 1) 0 ⟨by decide, hr, ho, Nat.zero_le _, by show 5 + 8 * (8 - n) + 4 ≤ d - 1; omega, hn, hi, by show (ts.length - i) * 10 + 7 < u; omega⟩
  cases hx : prF (kT ts) (vT ts) (decide (cl = 13)) u 6 n i a with
  | inl q =>
    rw [hx] at h1
    obtain ⟨J, r1, r2, r3, r4⟩ := h1
    rw [bnd_inl rfl]
    have r1 : Cl g (d - 1) mu_X5_readBoth [rf g 3] (Z, I, L) none (Z, J, L) := r1
    refine ⟨J, cp_X5_readEither (d := d) (dc := d - 1) (by omega) (by omega) (hS.k 3 5 (by decide) (by decide)) ⟨J, L, r1, wp_X5_readEither_6 (d := d) (dc := d - 1) (by omega) (by omega) (hS.k 3 5 (by decide) (by decide)) ⟨fun e => absurd e (by decide), fun _ => ⟨fun _ => ⟨rfl, rfl⟩, fun e => absurd e (r2.k (x := 16) (by decide) (by decide))⟩⟩⟩, r2, r3, r4⟩
  | inr q =>
    obtain ⟨F, j⟩ := q
    rw [hx] at h1
    obtain ⟨J, seg, r1, r2, r3, r4, r5, r6, r7⟩ := h1
    rw [bnd_inr rfl]
    have r1 : Cl g (d - 1) mu_X5_readBoth [rf g 3] (Z, I, L) none (Z, J, L) := r1
    have r4 : i + 1 ≤ j := r4
    have r5 : j < ts.length := r5
    have r6 : seg.length ≤ 2 * (j - i) := r6
    have len : (ords ++ seg).length = ords.length + seg.length := List.length_append
    have h2 := ih 9 n j F (ords ++ seg) J d 0 ⟨by decide, r2, by omega, Nat.zero_le _, by show 5 + 8 * (8 - n) + 5 ≤ d; omega, hn, r5, by show (ts.length - j) * 10 + 8 < u; omega⟩
    cases hy : prF (kT ts) (vT ts) (decide (cl = 13)) u 9 n j F with
    | inl q =>
      rw [hy] at h2
      obtain ⟨I1, t1, t2, t3, t4⟩ := h2
      exact ⟨I1, cp_X5_readEither (d := d) (dc := d - 1) (by omega) (by omega) (hS.k 3 5 (by decide) (by decide)) ⟨J, L, r1, t1⟩, t2, t3, r3.trans t4⟩
    | inr q =>
      obtain ⟨G, j2⟩ := q
      rw [hy] at h2
      obtain ⟨I1, seg2, t1, t2, t3, t4, t5, t6, t7⟩ := h2
      have t4 : j + 0 ≤ j2 := t4
      have t6 : seg2.length ≤ 2 * (j2 - j) := t6
      refine ⟨I1, seg ++ seg2, cp_X5_readEither (d := d) (dc := d - 1) (by omega) (by omega) (hS.k 3 5 (by decide) (by decide)) ⟨J, L, r1, t1⟩, by rw [← List.append_assoc]; exact t2, r3.trans t3, by show i + 1 ≤ j2; omega, t5, by show (seg ++ seg2).length ≤ 2 * (j2 - i); rw [List.length_append]; omega, ?_⟩
      have r7 : SGz ords.length seg (5 * n + 1) none F := r7
      rw [len] at t7
      have t7 : SGz (ords.length + seg.length) seg2 (5 * n + 0) (some F) G := t7
      show SGz ords.length (seg ++ seg2) (5 * n + 0) none G
      exact sg_seq (sg_less (h2 := 5 * n + 0) r7 (by omega)) t7 (Nat.le_refl _)
theorem st_2 (hS : Sh Z) (hT : TSz ts) (ih : IHz g Z L ts cl u) {n i : Nat} {a : EF} {ords : List Nat} {I : Nat → Nat → Int32} {d k : Nat} (h : CNd Z I ts cl (u + 1) d 2 k n i ords) : OKz g Z L ts cl d 2 k n i a ords I (prF (kT ts) (vT ts) (decide (cl = 13)) (u + 1) 2 n i a) := by
  obtain ⟨-, hr, ho, hk, hd, hn, hi, hu⟩ := h
  have hd : 5 + 8 * (8 - n) + 1 ≤ d := hd
  have hu : (ts.length - i) * 10 + 1 < u + 1 := hu
  have hlen := hT.2.1
  show OKz g Z L ts cl d 2 k n i a ords I (if kT ts i = 29 ∨ kT ts i = 30 then bnd (prF (kT ts) (vT ts) (decide (cl = 13)) u 0 n (i + 1) a) (fun e j => prF (kT ts) (vT ts) (decide (cl = 13)) u 2 n j (jf (kT ts i) a e)) else .inr (a, i))
  have k3 := hS.k 3 5 (by decide) (by decide)
  by_cases hop : kT ts i = 29 ∨ kT ts i = 30
  · rw [if_pos hop]
    have hi1 := hT.nx hi (by omega)
    have n300 : ¬ (300 : Int32) ≤ nI k := fun z => absurd ((nI_leI (a := 300) (by decide) (by omega)).mp z) (by omega)
    obtain ⟨c, hc⟩ : ∃ c, c = kT ts i := ⟨_, rfl⟩
    obtain ⟨J, a1, a2, a3⟩ := sp_rnext (g := g) (L := L) hS hr (by omega)
    have h1 := ih 0 n (i + 1) a ords J (d - 1) 0 ⟨by decide, a2, by omega, Nat.zero_le _, by show 5 + 8 * (8 - n) + 0 ≤ d - 1; omega, hn, hi1, by show (ts.length - (i + 1)) * 10 + 0 < u; omega⟩
    have go : ∀ (J2 J3 I1 : Nat → Nat → Int32), Cl g (d - 1) mu_X5_readOne [rf g 3] (Z, J, L) none (Z, J2, L) → Cl g 1 mu_X5_order [rf g 3, .int (nI c)] (Z, J2, L) none (Z, J3, L) → Lp_X5_readProduct_6 g d 3 (nI (k + 1)) (Z, J3, L) none (Z, I1, L) → Lp_X5_readProduct_6 g d 3 (nI k) (Z, I, L) none (Z, I1, L) := fun J2 J3 I1 g1 g2 g3 => by
      refine wp_X5_readProduct_6 (d := d) (dc := d - 1) (by omega) (by omega) k3 ⟨fun z => absurd z n300, fun _ => ⟨fun _ y hy => ⟨J, L, a1, J2, L, g1, J3, L, ?_, fun y2 hy2 => by rw [hy2, nI_1]; exact g3⟩, fun e => ⟨fun e2 => ?_, fun _ y hy => ⟨J, L, a1, J2, L, g1, J3, L, ?_, fun y2 hy2 => by rw [hy2, nI_1]; exact g3⟩⟩⟩⟩
      · rw [hy, hr.2.2.1, ← hc]; exact g2
      · exact absurd hop (fun z => z.elim (fun y => e ((hr.k hT (x := 29) (by decide)).mpr y)) (fun y => e2 ((hr.k hT (x := 30) (by decide)).mpr y)))
      · rw [hy, hr.2.2.1, ← hc]; exact g2
    cases hx : prF (kT ts) (vT ts) (decide (cl = 13)) u 0 n (i + 1) a with
    | inl q =>
      rw [hx] at h1
      obtain ⟨J2, r1, r2, r3, r4⟩ := h1
      rw [bnd_inl rfl]
      obtain ⟨J3, f1, f2, f3⟩ := fd_order (g := g) (L := L) (x := nI c) hS r2
      refine ⟨J3, go J2 J3 J3 r1 f1 (wp_X5_readProduct_6 (d := d) (dc := d - 1) (by omega) (by omega) k3 ⟨fun _ => ⟨rfl, rfl⟩, fun _ => ⟨fun e => absurd e (f2.k (x := 29) (by decide) (by decide)), fun _ => ⟨fun _ => ⟨rfl, rfl⟩, fun e => absurd e (f2.k (x := 30) (by decide) (by decide))⟩⟩⟩), f2, r3, (a3.trans r4).trans f3⟩
    | inr q =>
      obtain ⟨F, j⟩ := q
      rw [hx] at h1
      obtain ⟨J2, seg, r1, r2, r3, r4, r5, r6, r7⟩ := h1
      rw [bnd_inr rfl]
      have r4 : i + 1 + 1 ≤ j := r4
      have r5 : j < ts.length := r5
      have r6 : seg.length ≤ 2 * (j - (i + 1)) := r6
      have len : (ords ++ seg).length = ords.length + seg.length := List.length_append
      obtain ⟨J3, f1, f2, f3⟩ := sp_order (g := g) (L := L) hS r2 (by omega) c
      have len3 : (ords ++ seg ++ [c]).length = ords.length + seg.length + 1 := by rw [List.length_append, List.length_singleton, len]
      have h2 := ih 2 n j (jf c a F) (ords ++ seg ++ [c]) J3 d (k + 1) ⟨by decide, f2, by omega, by omega, by show 5 + 8 * (8 - n) + 1 ≤ d; omega, hn, r5, by show (ts.length - j) * 10 + 1 < u; omega⟩
      have ec : jf (kT ts i) a F = jf c a F := by rw [hc]
      rw [ec]
      cases hy : prF (kT ts) (vT ts) (decide (cl = 13)) u 2 n j (jf c a F) with
      | inl q =>
        rw [hy] at h2
        obtain ⟨I1, t1, t2, t3, t4⟩ := h2
        exact ⟨I1, go J2 J3 I1 r1 f1 t1, t2, t3, ((a3.trans r3).trans f3).trans t4⟩
      | inr q =>
        obtain ⟨G, j2⟩ := q
        rw [hy] at h2
        obtain ⟨I1, seg2, t1, t2, t3, t4, t5, t6, t7⟩ := h2
        have t4 : j + 0 ≤ j2 := t4
        have t6 : seg2.length ≤ 2 * (j2 - j) := t6
        refine ⟨I1, seg ++ [c] ++ seg2, go J2 J3 I1 r1 f1 t1, by rw [← List.append_assoc, ← List.append_assoc]; exact t2, ((a3.trans r3).trans f3).trans t3, by show i + 0 ≤ j2; omega, t5, by show (seg ++ [c] ++ seg2).length ≤ 2 * (j2 - i); rw [List.length_append, List.length_append, List.length_singleton]; omega, ?_⟩
        have r7 : SGz ords.length seg (5 * n + 5) none F := r7
        rw [len3] at t7
        have t7 : SGz (ords.length + seg.length + 1) seg2 (5 * n + 4) (some (jf c a F)) G := t7
        have hj : isJ c := by unfold isJ; omega
        have b := sg_bin (h := 5 * n + 4) (a := a) hj (sg_less r7 (by omega))
        exact sg_seq b (by rw [List.length_append, List.length_singleton, ← Nat.add_assoc]; exact t7) (Nat.le_refl _)
  · rw [if_neg hop]
    refine ⟨I, [], ?_, by rw [List.append_nil]; exact hr, FDr.refl I, Nat.le_refl _, hi, Nat.zero_le _, sg_nil _ _ _⟩
    exact wp_X5_readProduct_6 (d := d) (dc := d - 1) (by omega) (by omega) k3 ⟨fun _ => ⟨rfl, rfl⟩, fun _ => ⟨fun e => absurd (Or.inl ((hr.k hT (x := 29) (by decide)).mp e)) hop, fun _ => ⟨fun _ => ⟨rfl, rfl⟩, fun e => absurd (Or.inr ((hr.k hT (x := 30) (by decide)).mp e)) hop⟩⟩⟩
theorem st_4 (hS : Sh Z) (hT : TSz ts) (ih : IHz g Z L ts cl u) {n i : Nat} {a : EF} {ords : List Nat} {I : Nat → Nat → Int32} {d k : Nat} (h : CNd Z I ts cl (u + 1) d 4 k n i ords) : OKz g Z L ts cl d 4 k n i a ords I (prF (kT ts) (vT ts) (decide (cl = 13)) (u + 1) 4 n i a) := by
  obtain ⟨-, hr, ho, hk, hd, hn, hi, hu⟩ := h
  have hd : 5 + 8 * (8 - n) + 2 ≤ d := hd
  have hu : (ts.length - i) * 10 + 3 < u + 1 := hu
  have hlen := hT.2.1
  show OKz g Z L ts cl d 4 k n i a ords I (if kT ts i = 27 ∨ kT ts i = 28 then bnd (prF (kT ts) (vT ts) (decide (cl = 13)) u 1 n (i + 1) a) (fun e j => prF (kT ts) (vT ts) (decide (cl = 13)) u 4 n j (jf (kT ts i) a e)) else .inr (a, i))
  have k3 := hS.k 3 5 (by decide) (by decide)
  by_cases hop : kT ts i = 27 ∨ kT ts i = 28
  · rw [if_pos hop]
    have hi1 := hT.nx hi (by omega)
    have n300 : ¬ (300 : Int32) ≤ nI k := fun z => absurd ((nI_leI (a := 300) (by decide) (by omega)).mp z) (by omega)
    obtain ⟨c, hc⟩ : ∃ c, c = kT ts i := ⟨_, rfl⟩
    obtain ⟨J, a1, a2, a3⟩ := sp_rnext (g := g) (L := L) hS hr (by omega)
    have h1 := ih 1 n (i + 1) a ords J (d - 1) 0 ⟨by decide, a2, by omega, Nat.zero_le _, by show 5 + 8 * (8 - n) + 1 ≤ d - 1; omega, hn, hi1, by show (ts.length - (i + 1)) * 10 + 2 < u; omega⟩
    have go : ∀ (J2 J3 I1 : Nat → Nat → Int32), Cl g (d - 1) mu_X5_readProduct [rf g 3] (Z, J, L) none (Z, J2, L) → Cl g 1 mu_X5_order [rf g 3, .int (nI c)] (Z, J2, L) none (Z, J3, L) → Lp_X5_readSum_6 g d 3 (nI (k + 1)) (Z, J3, L) none (Z, I1, L) → Lp_X5_readSum_6 g d 3 (nI k) (Z, I, L) none (Z, I1, L) := fun J2 J3 I1 g1 g2 g3 => by
      refine wp_X5_readSum_6 (d := d) (dc := d - 1) (by omega) (by omega) k3 ⟨fun z => absurd z n300, fun _ => ⟨fun _ y hy => ⟨J, L, a1, J2, L, g1, J3, L, ?_, fun y2 hy2 => by rw [hy2, nI_1]; exact g3⟩, fun e => ⟨fun e2 => ?_, fun _ y hy => ⟨J, L, a1, J2, L, g1, J3, L, ?_, fun y2 hy2 => by rw [hy2, nI_1]; exact g3⟩⟩⟩⟩
      · rw [hy, hr.2.2.1, ← hc]; exact g2
      · exact absurd hop (fun z => z.elim (fun y => e ((hr.k hT (x := 27) (by decide)).mpr y)) (fun y => e2 ((hr.k hT (x := 28) (by decide)).mpr y)))
      · rw [hy, hr.2.2.1, ← hc]; exact g2
    cases hx : prF (kT ts) (vT ts) (decide (cl = 13)) u 1 n (i + 1) a with
    | inl q =>
      rw [hx] at h1
      obtain ⟨J2, r1, r2, r3, r4⟩ := h1
      rw [bnd_inl rfl]
      obtain ⟨J3, f1, f2, f3⟩ := fd_order (g := g) (L := L) (x := nI c) hS r2
      refine ⟨J3, go J2 J3 J3 r1 f1 (wp_X5_readSum_6 (d := d) (dc := d - 1) (by omega) (by omega) k3 ⟨fun _ => ⟨rfl, rfl⟩, fun _ => ⟨fun e => absurd e (f2.k (x := 27) (by decide) (by decide)), fun _ => ⟨fun _ => ⟨rfl, rfl⟩, fun e => absurd e (f2.k (x := 28) (by decide) (by decide))⟩⟩⟩), f2, r3, (a3.trans r4).trans f3⟩
    | inr q =>
      obtain ⟨F, j⟩ := q
      rw [hx] at h1
      obtain ⟨J2, seg, r1, r2, r3, r4, r5, r6, r7⟩ := h1
      rw [bnd_inr rfl]
      have r4 : i + 1 + 1 ≤ j := r4
      have r5 : j < ts.length := r5
      have r6 : seg.length ≤ 2 * (j - (i + 1)) := r6
      have len : (ords ++ seg).length = ords.length + seg.length := List.length_append
      obtain ⟨J3, f1, f2, f3⟩ := sp_order (g := g) (L := L) hS r2 (by omega) c
      have len3 : (ords ++ seg ++ [c]).length = ords.length + seg.length + 1 := by rw [List.length_append, List.length_singleton, len]
      have h2 := ih 4 n j (jf c a F) (ords ++ seg ++ [c]) J3 d (k + 1) ⟨by decide, f2, by omega, by omega, by show 5 + 8 * (8 - n) + 2 ≤ d; omega, hn, r5, by show (ts.length - j) * 10 + 3 < u; omega⟩
      have ec : jf (kT ts i) a F = jf c a F := by rw [hc]
      rw [ec]
      cases hy : prF (kT ts) (vT ts) (decide (cl = 13)) u 4 n j (jf c a F) with
      | inl q =>
        rw [hy] at h2
        obtain ⟨I1, t1, t2, t3, t4⟩ := h2
        exact ⟨I1, go J2 J3 I1 r1 f1 t1, t2, t3, ((a3.trans r3).trans f3).trans t4⟩
      | inr q =>
        obtain ⟨G, j2⟩ := q
        rw [hy] at h2
        obtain ⟨I1, seg2, t1, t2, t3, t4, t5, t6, t7⟩ := h2
        have t4 : j + 0 ≤ j2 := t4
        have t6 : seg2.length ≤ 2 * (j2 - j) := t6
        refine ⟨I1, seg ++ [c] ++ seg2, go J2 J3 I1 r1 f1 t1, by rw [← List.append_assoc, ← List.append_assoc]; exact t2, ((a3.trans r3).trans f3).trans t3, by show i + 0 ≤ j2; omega, t5, by show (seg ++ [c] ++ seg2).length ≤ 2 * (j2 - i); rw [List.length_append, List.length_append, List.length_singleton]; omega, ?_⟩
        have r7 : SGz ords.length seg (5 * n + 4) none F := r7
        rw [len3] at t7
        have t7 : SGz (ords.length + seg.length + 1) seg2 (5 * n + 3) (some (jf c a F)) G := t7
        have hj : isJ c := by unfold isJ; omega
        have b := sg_bin (h := 5 * n + 3) (a := a) hj (sg_less r7 (by omega))
        exact sg_seq b (by rw [List.length_append, List.length_singleton, ← Nat.add_assoc]; exact t7) (Nat.le_refl _)
  · rw [if_neg hop]
    refine ⟨I, [], ?_, by rw [List.append_nil]; exact hr, FDr.refl I, Nat.le_refl _, hi, Nat.zero_le _, sg_nil _ _ _⟩
    exact wp_X5_readSum_6 (d := d) (dc := d - 1) (by omega) (by omega) k3 ⟨fun _ => ⟨rfl, rfl⟩, fun _ => ⟨fun e => absurd (Or.inl ((hr.k hT (x := 27) (by decide)).mp e)) hop, fun _ => ⟨fun _ => ⟨rfl, rfl⟩, fun e => absurd (Or.inr ((hr.k hT (x := 28) (by decide)).mp e)) hop⟩⟩⟩
theorem st_7 (hS : Sh Z) (hT : TSz ts) (ih : IHz g Z L ts cl u) {n i : Nat} {a : EF} {ords : List Nat} {I : Nat → Nat → Int32} {d k : Nat} (h : CNd Z I ts cl (u + 1) d 7 k n i ords) : OKz g Z L ts cl d 7 k n i a ords I (prF (kT ts) (vT ts) (decide (cl = 13)) (u + 1) 7 n i a) := by
  obtain ⟨-, hr, ho, hk, hd, hn, hi, hu⟩ := h
  have hd : 5 + 8 * (8 - n) + 4 ≤ d := hd
  have hu : (ts.length - i) * 10 + 6 < u + 1 := hu
  have hlen := hT.2.1
  show OKz g Z L ts cl d 7 k n i a ords I (if kT ts i = 17 then bnd (prF (kT ts) (vT ts) (decide (cl = 13)) u 5 n (i + 1) a) (fun e j => prF (kT ts) (vT ts) (decide (cl = 13)) u 7 n j (jf (17) a e)) else .inr (a, i))
  have k3 := hS.k 3 5 (by decide) (by decide)
  by_cases hop : kT ts i = 17
  · rw [if_pos hop]
    have hi1 := hT.nx hi (by omega)
    have n300 : ¬ (300 : Int32) ≤ nI k := fun z => absurd ((nI_leI (a := 300) (by decide) (by omega)).mp z) (by omega)
    obtain ⟨c, hc⟩ : ∃ c, c = kT ts i := ⟨_, rfl⟩
    obtain ⟨J, a1, a2, a3⟩ := sp_rnext (g := g) (L := L) hS hr (by omega)
    have h1 := ih 5 n (i + 1) a ords J (d - 1) 0 ⟨by decide, a2, by omega, Nat.zero_le _, by show 5 + 8 * (8 - n) + 3 ≤ d - 1; omega, hn, hi1, by show (ts.length - (i + 1)) * 10 + 5 < u; omega⟩
    have go : ∀ (J2 J3 I1 : Nat → Nat → Int32), Cl g (d - 1) mu_X5_readAsk [rf g 3] (Z, J, L) none (Z, J2, L) → Cl g 1 mu_X5_order [rf g 3, .int (nI c)] (Z, J2, L) none (Z, J3, L) → Lp_X5_readBoth_6 g d 3 (nI (k + 1)) (Z, J3, L) none (Z, I1, L) → Lp_X5_readBoth_6 g d 3 (nI k) (Z, I, L) none (Z, I1, L) := fun J2 J3 I1 g1 g2 g3 => by
      refine wp_X5_readBoth_6 (d := d) (dc := d - 1) (by omega) (by omega) k3 ⟨fun z => absurd z n300, fun _ => ⟨fun e => absurd ((hr.k hT (x := 17) (by decide)).mpr hop) e, fun _ => ⟨J, L, a1, J2, L, g1, J3, L, ?_, fun y2 hy2 => by rw [hy2, nI_1]; exact g3⟩⟩⟩
      rw [hc, hop] at g2
      exact g2
    cases hx : prF (kT ts) (vT ts) (decide (cl = 13)) u 5 n (i + 1) a with
    | inl q =>
      rw [hx] at h1
      obtain ⟨J2, r1, r2, r3, r4⟩ := h1
      rw [bnd_inl rfl]
      obtain ⟨J3, f1, f2, f3⟩ := fd_order (g := g) (L := L) (x := nI c) hS r2
      refine ⟨J3, go J2 J3 J3 r1 f1 (wp_X5_readBoth_6 (d := d) (dc := d - 1) (by omega) (by omega) k3 ⟨fun _ => ⟨rfl, rfl⟩, fun _ => ⟨fun _ => ⟨rfl, rfl⟩, fun e => absurd e (f2.k (x := 17) (by decide) (by decide))⟩⟩), f2, r3, (a3.trans r4).trans f3⟩
    | inr q =>
      obtain ⟨F, j⟩ := q
      rw [hx] at h1
      obtain ⟨J2, seg, r1, r2, r3, r4, r5, r6, r7⟩ := h1
      rw [bnd_inr rfl]
      have r4 : i + 1 + 1 ≤ j := r4
      have r5 : j < ts.length := r5
      have r6 : seg.length ≤ 2 * (j - (i + 1)) := r6
      have len : (ords ++ seg).length = ords.length + seg.length := List.length_append
      obtain ⟨J3, f1, f2, f3⟩ := sp_order (g := g) (L := L) hS r2 (by omega) c
      have len3 : (ords ++ seg ++ [c]).length = ords.length + seg.length + 1 := by rw [List.length_append, List.length_singleton, len]
      have h2 := ih 7 n j (jf c a F) (ords ++ seg ++ [c]) J3 d (k + 1) ⟨by decide, f2, by omega, by omega, by show 5 + 8 * (8 - n) + 4 ≤ d; omega, hn, r5, by show (ts.length - j) * 10 + 6 < u; omega⟩
      have ec : jf (17) a F = jf c a F := by rw [hc, hop]
      rw [ec]
      cases hy : prF (kT ts) (vT ts) (decide (cl = 13)) u 7 n j (jf c a F) with
      | inl q =>
        rw [hy] at h2
        obtain ⟨I1, t1, t2, t3, t4⟩ := h2
        exact ⟨I1, go J2 J3 I1 r1 f1 t1, t2, t3, ((a3.trans r3).trans f3).trans t4⟩
      | inr q =>
        obtain ⟨G, j2⟩ := q
        rw [hy] at h2
        obtain ⟨I1, seg2, t1, t2, t3, t4, t5, t6, t7⟩ := h2
        have t4 : j + 0 ≤ j2 := t4
        have t6 : seg2.length ≤ 2 * (j2 - j) := t6
        refine ⟨I1, seg ++ [c] ++ seg2, go J2 J3 I1 r1 f1 t1, by rw [← List.append_assoc, ← List.append_assoc]; exact t2, ((a3.trans r3).trans f3).trans t3, by show i + 0 ≤ j2; omega, t5, by show (seg ++ [c] ++ seg2).length ≤ 2 * (j2 - i); rw [List.length_append, List.length_append, List.length_singleton]; omega, ?_⟩
        have r7 : SGz ords.length seg (5 * n + 2) none F := r7
        rw [len3] at t7
        have t7 : SGz (ords.length + seg.length + 1) seg2 (5 * n + 1) (some (jf c a F)) G := t7
        have hj : isJ c := by unfold isJ; omega
        have b := sg_bin (h := 5 * n + 1) (a := a) hj (sg_less r7 (by omega))
        exact sg_seq b (by rw [List.length_append, List.length_singleton, ← Nat.add_assoc]; exact t7) (Nat.le_refl _)
  · rw [if_neg hop]
    refine ⟨I, [], ?_, by rw [List.append_nil]; exact hr, FDr.refl I, Nat.le_refl _, hi, Nat.zero_le _, sg_nil _ _ _⟩
    exact wp_X5_readBoth_6 (d := d) (dc := d - 1) (by omega) (by omega) k3 ⟨fun _ => ⟨rfl, rfl⟩, fun _ => ⟨fun _ => ⟨rfl, rfl⟩, fun e => absurd ((hr.k hT (x := 17) (by decide)).mp e) hop⟩⟩
theorem st_9 (hS : Sh Z) (hT : TSz ts) (ih : IHz g Z L ts cl u) {n i : Nat} {a : EF} {ords : List Nat} {I : Nat → Nat → Int32} {d k : Nat} (h : CNd Z I ts cl (u + 1) d 9 k n i ords) : OKz g Z L ts cl d 9 k n i a ords I (prF (kT ts) (vT ts) (decide (cl = 13)) (u + 1) 9 n i a) := by
  obtain ⟨-, hr, ho, hk, hd, hn, hi, hu⟩ := h
  have hd : 5 + 8 * (8 - n) + 5 ≤ d := hd
  have hu : (ts.length - i) * 10 + 8 < u + 1 := hu
  have hlen := hT.2.1
  show OKz g Z L ts cl d 9 k n i a ords I (if kT ts i = 16 then bnd (prF (kT ts) (vT ts) (decide (cl = 13)) u 6 n (i + 1) a) (fun e j => prF (kT ts) (vT ts) (decide (cl = 13)) u 9 n j (jf (16) a e)) else .inr (a, i))
  have k3 := hS.k 3 5 (by decide) (by decide)
  by_cases hop : kT ts i = 16
  · rw [if_pos hop]
    have hi1 := hT.nx hi (by omega)
    have n300 : ¬ (300 : Int32) ≤ nI k := fun z => absurd ((nI_leI (a := 300) (by decide) (by omega)).mp z) (by omega)
    obtain ⟨c, hc⟩ : ∃ c, c = kT ts i := ⟨_, rfl⟩
    obtain ⟨J, a1, a2, a3⟩ := sp_rnext (g := g) (L := L) hS hr (by omega)
    have h1 := ih 6 n (i + 1) a ords J (d - 1) 0 ⟨by decide, a2, by omega, Nat.zero_le _, by show 5 + 8 * (8 - n) + 4 ≤ d - 1; omega, hn, hi1, by show (ts.length - (i + 1)) * 10 + 7 < u; omega⟩
    have go : ∀ (J2 J3 I1 : Nat → Nat → Int32), Cl g (d - 1) mu_X5_readBoth [rf g 3] (Z, J, L) none (Z, J2, L) → Cl g 1 mu_X5_order [rf g 3, .int (nI c)] (Z, J2, L) none (Z, J3, L) → Lp_X5_readEither_6 g d 3 (nI (k + 1)) (Z, J3, L) none (Z, I1, L) → Lp_X5_readEither_6 g d 3 (nI k) (Z, I, L) none (Z, I1, L) := fun J2 J3 I1 g1 g2 g3 => by
      refine wp_X5_readEither_6 (d := d) (dc := d - 1) (by omega) (by omega) k3 ⟨fun z => absurd z n300, fun _ => ⟨fun e => absurd ((hr.k hT (x := 16) (by decide)).mpr hop) e, fun _ => ⟨J, L, a1, J2, L, g1, J3, L, ?_, fun y2 hy2 => by rw [hy2, nI_1]; exact g3⟩⟩⟩
      rw [hc, hop] at g2
      exact g2
    cases hx : prF (kT ts) (vT ts) (decide (cl = 13)) u 6 n (i + 1) a with
    | inl q =>
      rw [hx] at h1
      obtain ⟨J2, r1, r2, r3, r4⟩ := h1
      rw [bnd_inl rfl]
      obtain ⟨J3, f1, f2, f3⟩ := fd_order (g := g) (L := L) (x := nI c) hS r2
      refine ⟨J3, go J2 J3 J3 r1 f1 (wp_X5_readEither_6 (d := d) (dc := d - 1) (by omega) (by omega) k3 ⟨fun _ => ⟨rfl, rfl⟩, fun _ => ⟨fun _ => ⟨rfl, rfl⟩, fun e => absurd e (f2.k (x := 16) (by decide) (by decide))⟩⟩), f2, r3, (a3.trans r4).trans f3⟩
    | inr q =>
      obtain ⟨F, j⟩ := q
      rw [hx] at h1
      obtain ⟨J2, seg, r1, r2, r3, r4, r5, r6, r7⟩ := h1
      rw [bnd_inr rfl]
      have r4 : i + 1 + 1 ≤ j := r4
      have r5 : j < ts.length := r5
      have r6 : seg.length ≤ 2 * (j - (i + 1)) := r6
      have len : (ords ++ seg).length = ords.length + seg.length := List.length_append
      obtain ⟨J3, f1, f2, f3⟩ := sp_order (g := g) (L := L) hS r2 (by omega) c
      have len3 : (ords ++ seg ++ [c]).length = ords.length + seg.length + 1 := by rw [List.length_append, List.length_singleton, len]
      have h2 := ih 9 n j (jf c a F) (ords ++ seg ++ [c]) J3 d (k + 1) ⟨by decide, f2, by omega, by omega, by show 5 + 8 * (8 - n) + 5 ≤ d; omega, hn, r5, by show (ts.length - j) * 10 + 8 < u; omega⟩
      have ec : jf (16) a F = jf c a F := by rw [hc, hop]
      rw [ec]
      cases hy : prF (kT ts) (vT ts) (decide (cl = 13)) u 9 n j (jf c a F) with
      | inl q =>
        rw [hy] at h2
        obtain ⟨I1, t1, t2, t3, t4⟩ := h2
        exact ⟨I1, go J2 J3 I1 r1 f1 t1, t2, t3, ((a3.trans r3).trans f3).trans t4⟩
      | inr q =>
        obtain ⟨G, j2⟩ := q
        rw [hy] at h2
        obtain ⟨I1, seg2, t1, t2, t3, t4, t5, t6, t7⟩ := h2
        have t4 : j + 0 ≤ j2 := t4
        have t6 : seg2.length ≤ 2 * (j2 - j) := t6
        refine ⟨I1, seg ++ [c] ++ seg2, go J2 J3 I1 r1 f1 t1, by rw [← List.append_assoc, ← List.append_assoc]; exact t2, ((a3.trans r3).trans f3).trans t3, by show i + 0 ≤ j2; omega, t5, by show (seg ++ [c] ++ seg2).length ≤ 2 * (j2 - i); rw [List.length_append, List.length_append, List.length_singleton]; omega, ?_⟩
        have r7 : SGz ords.length seg (5 * n + 1) none F := r7
        rw [len3] at t7
        have t7 : SGz (ords.length + seg.length + 1) seg2 (5 * n + 0) (some (jf c a F)) G := t7
        have hj : isJ c := by unfold isJ; omega
        have b := sg_bin (h := 5 * n + 0) (a := a) hj (sg_less r7 (by omega))
        exact sg_seq b (by rw [List.length_append, List.length_singleton, ← Nat.add_assoc]; exact t7) (Nat.le_refl _)
  · rw [if_neg hop]
    refine ⟨I, [], ?_, by rw [List.append_nil]; exact hr, FDr.refl I, Nat.le_refl _, hi, Nat.zero_le _, sg_nil _ _ _⟩
    exact wp_X5_readEither_6 (d := d) (dc := d - 1) (by omega) (by omega) k3 ⟨fun _ => ⟨rfl, rfl⟩, fun _ => ⟨fun _ => ⟨rfl, rfl⟩, fun e => absurd ((hr.k hT (x := 16) (by decide)).mp e) hop⟩⟩
end RDA
