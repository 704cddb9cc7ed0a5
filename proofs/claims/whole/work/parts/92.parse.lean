/-! reading a text, by its meaning; the class's reader: single steps -/
abbrev PR : Type := (Nat × Nat) ⊕ (EF × Nat)
def bnd (x : PR) (k : EF → Nat → PR) : PR := match x with
  | .inl e => .inl e
  | .inr q => k q.1 q.2
def jf (c : Nat) (f e : EF) : EF := fun env => hjF c (f env) (e env)
/-- what is read at the token i, n open around it: 0 ONE, 1 and 2 PRODUCT, 3 and 4 SUM, 5 ASK, 6 and 7 BOTH, 8 and 9 EITHER; the second of two goes on behind a -/
def prF (K V : Nat → Nat) (lk : Bool) : Nat → Nat → Nat → Nat → EF → PR
  | 0, _, _, _, _ => .inl (0, 0)
  | u + 1, m, n, i, a =>
    if m = 0 then (
      if K i = 19 then (if 9999 < V i then .inl (2, i) else .inr (fun _ => nI (V i), i + 1))
      else if K i = 20 then (if decide (6 ≤ V i) = lk then .inr (fun env => env (V i), i + 1) else .inl (5, i))
      else if K i = 31 then (if n < 8 then bnd (prF K V lk u 3 (n + 1) (i + 1) a) (fun f j => if K j = 32 then .inr (f, j + 1) else .inl (1, j)) else .inl (3, i))
      else if K i = 28 then (if n < 8 then bnd (prF K V lk u 0 (n + 1) (i + 1) a) (fun f j => .inr (fun env => - f env, j)) else .inl (3, i))
      else if K i = 14 then (if n < 8 then bnd (prF K V lk u 8 (n + 1) (i + 1) a) (fun c j => if K j = 34 then bnd (prF K V lk u 3 (n + 1) (j + 1) a) (fun f k => if K k = 35 then bnd (prF K V lk u 3 (n + 1) (k + 1) a) (fun e l => if K l = 15 then .inr (fun env => if c env = 0 then e env else f env, l + 1) else .inl (1, l)) else .inl (1, k)) else .inl (1, j)) else .inl (3, i))
      else .inl (1, i))
    else if m = 1 then bnd (prF K V lk u 0 n i a) (fun f j => prF K V lk u 2 n j f)
    else if m = 2 then (if K i = 29 ∨ K i = 30 then bnd (prF K V lk u 0 n (i + 1) a) (fun e j => prF K V lk u 2 n j (jf (K i) a e)) else .inr (a, i))
    else if m = 3 then bnd (prF K V lk u 1 n i a) (fun f j => prF K V lk u 4 n j f)
    else if m = 4 then (if K i = 27 ∨ K i = 28 then bnd (prF K V lk u 1 n (i + 1) a) (fun e j => prF K V lk u 4 n j (jf (K i) a e)) else .inr (a, i))
    else if m = 5 then (if K i = 18 then (if n < 8 then bnd (prF K V lk u 5 (n + 1) (i + 1) a) (fun f j => .inr (fun env => if f env = 0 then 1 else 0, j)) else .inl (3, i)) else bnd (prF K V lk u 3 n i a) (fun f j => if 21 ≤ K j ∧ K j ≤ 26 then bnd (prF K V lk u 3 n (j + 1) a) (fun e k => .inr (jf (K j) f e, k)) else .inl (1, j)))
    else if m = 6 then bnd (prF K V lk u 5 n i a) (fun f j => prF K V lk u 7 n j f)
    else if m = 7 then (if K i = 17 then bnd (prF K V lk u 5 n (i + 1) a) (fun e j => prF K V lk u 7 n j (jf 17 a e)) else .inr (a, i))
    else if m = 8 then bnd (prF K V lk u 6 n i a) (fun f j => prF K V lk u 9 n j f)
    else (if K i = 16 then bnd (prF K V lk u 6 n (i + 1) a) (fun e j => prF K V lk u 9 n j (jf 16 a e)) else .inr (a, i))
def kT (ts : List (Nat × Nat × Nat)) (i : Nat) : Nat := (ts.getD i (37, 0, 0)).1
def pT (ts : List (Nat × Nat × Nat)) (i : Nat) : Nat := (ts.getD i (37, 0, 0)).2.1
def vT (ts : List (Nat × Nat × Nat)) (i : Nat) : Nat := (ts.getD i (37, 0, 0)).2.2
/-- the tokens are such as a scan makes them -/
def TSz (ts : List (Nat × Nat × Nat)) : Prop := 1 ≤ ts.length ∧ ts.length ≤ 301 ∧ kT ts (ts.length - 1) = 37 ∧ (∀ i, kT ts i ≤ 37) ∧ (∀ i, vT ts i ≤ 10000) ∧ (∀ i, kT ts i = 20 → vT ts i < 11) ∧ ∀ i, pT ts i ≤ 300
/-- the reader stands at the token i, n are open, the orders are so -/
def RDz (Z : Zs) (I : Nat → Nat → Int32) (ts : List (Nat × Nat × Nat)) (cl i n : Nat) (ords : List Nat) : Prop := TKz Z I ts ∧ I 3 4 = nI i ∧ I 3 5 = nI (kT ts i) ∧ I 3 6 = nI cl ∧ I 3 7 = nI n ∧ I 3 8 = 0 ∧ I 3 9 = -1 ∧ I 3 3 = nI ords.length ∧ ords.length ≤ 602 ∧ ∀ (k : Nat) v, ords[k]? = some v → I 11 k = nI v
/-- the reader has found the fault f at the token j -/
def FDz (Z : Zs) (I : Nat → Nat → Int32) (ts : List (Nat × Nat × Nat)) (f j : Nat) : Prop := TKz Z I ts ∧ I 3 5 = 36 ∧ I 3 8 = nI f ∧ I 3 9 = nI (pT ts j) ∧ 1 ≤ f ∧ f ≤ 5 ∧ ∃ l, l ≤ 602 ∧ I 3 3 = nI l
def FDr (I I1 : Nat → Nat → Int32) : Prop := ∀ a, a ≠ 3 → a ≠ 11 → I1 a = I a
theorem FDr.refl (I : Nat → Nat → Int32) : FDr I I := fun _ _ _ => rfl
theorem FDr.trans {I I1 I2 : Nat → Nat → Int32} (a : FDr I I1) (b : FDr I1 I2) : FDr I I2 := fun q h1 h2 => by rw [b q h1 h2, a q h1 h2]
theorem kT_map {ts : List (Nat × Nat × Nat)} {i : Nat} (hi : i < ts.length) : (ts.map (fun q => q.1)).getD i 0 = kT ts i ∧ (ts.map (fun q => q.2.1)).getD i 0 = pT ts i ∧ (ts.map (fun q => q.2.2)).getD i 0 = vT ts i := by
  unfold kT pT vT
  rw [List.getD_eq_getElem?_getD, List.getD_eq_getElem?_getD, List.getD_eq_getElem?_getD, List.getD_eq_getElem?_getD, List.getElem?_map, List.getElem?_map, List.getElem?_map, List.getElem?_eq_getElem hi]
  exact ⟨rfl, rfl, rfl⟩
section RD
variable {g : GE} {Z : Zs} {I : Nat → Nat → Int32} {L : Nat → Nat → Int64} {ts : List (Nat × Nat × Nat)} {cl i n : Nat} {ords : List Nat}
theorem sp_kindAt (hS : Sh Z) (hk : TKz Z I ts) {i : Nat} (hi : i < 2 ^ 30) : Cl g 2 mu_X9_kindAt [rf g 4, .int (nI i)] (Z, I, L) (some (.int (nI (kT ts i)))) (Z, I, L) := by
  have hl := hk.1.2.2.2.2.2.1
  rw [List.length_map] at hl
  have sz := sp_size (g := g) (L := L) hk.1
  rw [List.length_map] at sz
  have ca := sp_at (g := g) (L := L) hk.1 (nI i)
  rw [atL_n _ (by omega)] at ca
  refine cp_X9_kindAt (hS.k 4 9 (by decide) (by decide)) (hS.r 4 0 5 (by decide)) (hS.k 5 2 (by decide) (by decide)) ⟨_, sz, fun e => ⟨?_, rfl⟩, fun e => ⟨_, ca, ?_, rfl⟩⟩
  · have e := (nI_leI (by omega) (by omega)).mp e
    unfold kT
    rw [List.getD_eq_getElem?_getD, List.getElem?_eq_none e]; rfl
  · rw [nI_leI (by omega) (by omega)] at e
    rw [(kT_map (show i < ts.length by omega)).1]
theorem sp_placeAt (hS : Sh Z) (hk : TKz Z I ts) (hi : i < ts.length) : Cl g 2 mu_X9_placeAt [rf g 4, .int (nI i)] (Z, I, L) (some (.int (nI (pT ts i)))) (Z, I, L) := by
  have hl := hk.1.2.2.2.2.2.1
  rw [List.length_map] at hl
  have ca := sp_at (g := g) (L := L) hk.2.1 (nI i)
  rw [atL_n _ (by omega), (kT_map hi).2.1] at ca
  exact cp_X9_placeAt (hS.k 4 9 (by decide) (by decide)) (hS.r 4 1 7 (by decide)) (hS.k 7 2 (by decide) (by decide)) ⟨_, ca, rfl, rfl⟩
theorem sp_valueAt (hS : Sh Z) (hk : TKz Z I ts) (hi : i < ts.length) : Cl g 2 mu_X9_valueAt [rf g 4, .int (nI i)] (Z, I, L) (some (.int (nI (vT ts i)))) (Z, I, L) := by
  have hl := hk.1.2.2.2.2.2.1
  rw [List.length_map] at hl
  have ca := sp_at (g := g) (L := L) hk.2.2 (nI i)
  rw [atL_n _ (by omega), (kT_map hi).2.2] at ca
  exact cp_X9_valueAt (hS.k 4 9 (by decide) (by decide)) (hS.r 4 2 9 (by decide)) (hS.k 9 2 (by decide) (by decide)) ⟨_, ca, rfl, rfl⟩
theorem TKz.o3 (hk : TKz Z I ts) {I1 : Nat → Nat → Int32} (hf : ∀ a, a ≠ 3 → a ≠ 11 → I1 a = I a) : TKz Z I1 ts := hk.kept (fun a h1 h2 => hf a (by omega) (by omega))
theorem sp_rnext (hS : Sh Z) (hr : RDz Z I ts cl i n ords) (hi : i < 1000) : ∃ I1, Cl g 3 mu_X5_next [rf g 3] (Z, I, L) none (Z, I1, L) ∧ RDz Z I1 ts cl (i + 1) n ords ∧ FDr I I1 := by
  obtain ⟨h1, h2, h3, h4, h5, h6, h7, h8, h9, h10⟩ := hr
  obtain ⟨J1, q1⟩ : ∃ J, J = rw1 I 3 (upd (I 3) 4 (nI (i + 1))) := ⟨_, rfl⟩
  obtain ⟨J2, q2⟩ : ∃ J, J = rw1 J1 3 (upd (J1 3) 5 (nI (kT ts (i + 1)))) := ⟨_, rfl⟩
  have o1 : ∀ a, a ≠ 3 → J1 a = I a := fun a ha => by rw [q1, rw1_n _ _ ha]
  have o2 : ∀ a, a ≠ 3 → J2 a = I a := fun a ha => by rw [q2, rw1_n _ _ ha, o1 a ha]
  have k1 : TKz Z J1 ts := h1.o3 (fun a ha _ => o1 a ha)
  have u : ∀ q, q ≠ 4 → q ≠ 5 → J2 3 q = I 3 q := fun q ha hb => by rw [q2, rw1_s, upd_n _ _ hb, q1, rw1_s, upd_n _ _ ha]
  have e4 : J1 3 4 = nI (i + 1) := by rw [q1, rw1_s, upd_s]
  refine ⟨J2, cp_X5_next (hS.k 3 5 (by decide) (by decide)) (hS.r 3 0 4 (by decide)) (hS.k 4 9 (by decide) (by decide)) ⟨fun e => absurd h6 e, fun _ I1 hI1 => ?_⟩, ⟨h1.o3 (fun a ha _ => o2 a ha), ?_, ?_, ?_, ?_, ?_, ?_, ?_, h9, ?_⟩, fun a ha _ => o2 a ha⟩
  · rw [h2, nI_1, ← q1] at hI1
    rw [hI1, e4]
    exact ⟨_, sp_kindAt hS k1 (by omega), fun I4 h4' => ⟨rfl, by rw [h4', ← q2]⟩⟩
  · rw [q2, rw1_s, upd_n _ _ (by decide)]; exact e4
  · rw [q2, rw1_s, upd_s]
  · rw [u 6 (by decide) (by decide)]; exact h4
  · rw [u 7 (by decide) (by decide)]; exact h5
  · rw [u 8 (by decide) (by decide)]; exact h6
  · rw [u 9 (by decide) (by decide)]; exact h7
  · rw [u 3 (by decide) (by decide)]; exact h8
  · intro k v hk
    rw [o2 11 (by decide)]; exact h10 k v hk
theorem sp_rfail (hS : Sh Z) (hr : RDz Z I ts cl i n ords) (hi : i < ts.length) {f : Nat} (hf1 : 1 ≤ f) (hf5 : f ≤ 5) : ∃ I1, Cl g 3 mu_X5_fail [rf g 3, .int (nI f)] (Z, I, L) none (Z, I1, L) ∧ FDz Z I1 ts f i ∧ FDr I I1 := by
  obtain ⟨h1, h2, h3, h4, h5, h6, h7, h8, h9, h10⟩ := hr
  obtain ⟨J1, q1⟩ : ∃ J, J = rw1 I 3 (upd (I 3) 8 (nI f)) := ⟨_, rfl⟩
  obtain ⟨J2, q2⟩ : ∃ J, J = rw1 J1 3 (upd (J1 3) 9 (nI (pT ts i))) := ⟨_, rfl⟩
  obtain ⟨J3, q3⟩ : ∃ J, J = rw1 J2 3 (upd (J2 3) 5 36) := ⟨_, rfl⟩
  have o1 : ∀ a, a ≠ 3 → J1 a = I a := fun a ha => by rw [q1, rw1_n _ _ ha]
  have o3 : ∀ a, a ≠ 3 → J3 a = I a := fun a ha => by rw [q3, rw1_n _ _ ha, q2, rw1_n _ _ ha, o1 a ha]
  have k1 : TKz Z J1 ts := h1.o3 (fun a ha _ => o1 a ha)
  have e4 : J1 3 4 = nI i := by rw [q1, rw1_s, upd_n _ _ (by decide)]; exact h2
  refine ⟨J3, cp_X5_fail (hS.k 3 5 (by decide) (by decide)) (hS.r 3 0 4 (by decide)) (hS.k 4 9 (by decide) (by decide)) ⟨fun e => absurd h6 e, fun _ I1 hI1 => ?_⟩, ⟨h1.o3 (fun a ha _ => o3 a ha), ?_, ?_, ?_, hf1, hf5, ords.length, h9, ?_⟩, fun a ha _ => o3 a ha⟩
  · rw [← q1] at hI1
    rw [hI1, e4]
    exact ⟨_, sp_placeAt hS k1 hi, fun I4 h4' I5 h5' => ⟨rfl, by rw [h5', h4', ← q2, ← q3]⟩⟩
  · rw [q3, rw1_s, upd_s]
  · rw [q3, rw1_s, upd_n _ _ (by decide), q2, rw1_s, upd_n _ _ (by decide), q1, rw1_s, upd_s]
  · rw [q3, rw1_s, upd_n _ _ (by decide), q2, rw1_s, upd_s]
  · rw [q3, rw1_s, upd_n _ _ (by decide), q2, rw1_s, upd_n _ _ (by decide), q1, rw1_s, upd_n _ _ (by decide)]; exact h8
theorem FDz.ne {f j : Nat} (h : FDz Z I ts f j) : ¬ I 3 8 = 0 := by
  obtain ⟨-, -, h2, -, h4, h5, -⟩ := h
  rw [h2]; exact nI_ne0 (by omega) (by omega)
/-- behind a fault: next() and fail() do nothing -/
theorem fd_next (hS : Sh Z) {f j : Nat} (h : FDz Z I ts f j) : Cl g 3 mu_X5_next [rf g 3] (Z, I, L) none (Z, I, L) := cp_X5_next (hS.k 3 5 (by decide) (by decide)) (hS.r 3 0 4 (by decide)) (hS.k 4 9 (by decide) (by decide)) ⟨fun _ => ⟨rfl, rfl⟩, fun e => absurd e h.ne⟩
theorem fd_fail (hS : Sh Z) {f j : Nat} (h : FDz Z I ts f j) {x : Int32} : Cl g 3 mu_X5_fail [rf g 3, .int x] (Z, I, L) none (Z, I, L) := cp_X5_fail (hS.k 3 5 (by decide) (by decide)) (hS.r 3 0 4 (by decide)) (hS.k 4 9 (by decide) (by decide)) ⟨fun _ => ⟨rfl, rfl⟩, fun e => absurd e h.ne⟩
theorem fd_take (hS : Sh Z) {f j : Nat} (h : FDz Z I ts f j) {x : Nat} (hx : x < 36) : Cl g 4 mu_X5_take [rf g 3, .int (nI x)] (Z, I, L) none (Z, I, L) := cp_X5_take (hS.k 3 5 (by decide) (by decide)) ⟨fun _ => ⟨I, L, fd_fail hS h, rfl, rfl⟩, fun e => by
  rw [h.2.1] at e
  exact absurd ((nI_eq (a := 36) (by decide) (by omega)).mp e) (by omega)⟩
theorem fd_order (hS : Sh Z) {f j : Nat} (h : FDz Z I ts f j) {x : Int32} : ∃ I1, Cl g 1 mu_X5_order [rf g 3, .int x] (Z, I, L) none (Z, I1, L) ∧ FDz Z I1 ts f j ∧ FDr I I1 := by
  obtain ⟨h1, h2, h3, h4, h5, h6, l, h7, h8⟩ := h
  by_cases hl : l < 602
  · obtain ⟨J1, q1⟩ : ∃ J, J = rw1 I 11 (upd (I 11) l x) := ⟨_, rfl⟩
    obtain ⟨J2, q2⟩ : ∃ J, J = rw1 J1 3 (upd (J1 3) 3 (nI (l + 1))) := ⟨_, rfl⟩
    have p1 : J1 3 = I 3 := by rw [q1, rw1_n _ _ (by decide)]
    have o2 : ∀ a, a ≠ 3 → a ≠ 11 → J2 a = I a := fun a ha hb => by rw [q2, rw1_n _ _ ha, q1, rw1_n _ _ hb]
    have u : ∀ q, q ≠ 3 → J2 3 q = I 3 q := fun q ha => by rw [q2, rw1_s, upd_n _ _ ha, p1]
    refine ⟨J2, cp_X5_order (hS.k 3 5 (by decide) (by decide)) (hS.r 3 1 11 (by decide)) (hS.k 11 13 (by decide) (by decide)) ⟨fun e => ?_, fun _ => ?_⟩, ⟨h1.o3 o2, by rw [u 5 (by decide)]; exact h2, by rw [u 8 (by decide)]; exact h3, by rw [u 9 (by decide)]; exact h4, h5, h6, l + 1, by omega, by rw [q2, rw1_s, upd_s]⟩, o2⟩
    · rw [hS.n 11 602 (by decide), h8] at e
      exact absurd e (nI_ge hl (by decide))
    · rw [hS.n 11 602 (by decide), h8, nI_clamp (by omega)]
      refine ⟨vp_in_nI hl (by decide), fun I2 hI2 I3 hI3 => ⟨rfl, ?_⟩⟩
      rw [← q1] at hI2
      rw [hI2, p1, h8, nI_1, ← p1, ← q2] at hI3
      rw [hI3]
  · refine ⟨I, cp_X5_order (hS.k 3 5 (by decide) (by decide)) (hS.r 3 1 11 (by decide)) (hS.k 11 13 (by decide) (by decide)) ⟨fun _ => ⟨rfl, rfl⟩, fun e => ?_⟩, ⟨h1, h2, h3, h4, h5, h6, l, h7, h8⟩, FDr.refl I⟩
    rw [hS.n 11 602 (by decide), h8] at e
    exact absurd (nI_le (by omega) (by omega)) e
theorem fd_orderWith (hS : Sh Z) {f j : Nat} (h : FDz Z I ts f j) {x y : Int32} : ∃ v I1, Cl g 2 mu_X5_orderWith [rf g 3, .int x, .int y] (Z, I, L) (some (.int v)) (Z, I1, L) ∧ FDz Z I1 ts f j ∧ FDr I I1 := by
  obtain ⟨J1, a1, a2, a3⟩ := fd_order (g := g) (L := L) (x := x) hS h
  obtain ⟨J2, b1, b2, b3⟩ := fd_order (g := g) (L := L) (x := y) hS a2
  exact ⟨_, J2, cp_X5_orderWith (hS.k 3 5 (by decide) (by decide)) ⟨J1, L, a1, J2, L, b1, rfl, rfl⟩, b2, a3.trans b3⟩
theorem fd_land (hS : Sh Z) {f j : Nat} (h : FDz Z I ts f j) {x : Int32} : ∃ I1, Cl g 1 mu_X5_landHere [rf g 3, .int x] (Z, I, L) none (Z, I1, L) ∧ FDz Z I1 ts f j ∧ FDr I I1 := by
  by_cases h0 : x < 0
  · exact ⟨I, cp_X5_landHere (hS.k 3 5 (by decide) (by decide)) (hS.r 3 1 11 (by decide)) (hS.k 11 13 (by decide) (by decide)) ⟨fun _ => ⟨rfl, rfl⟩, fun e => absurd h0 e⟩, h, FDr.refl I⟩
  · by_cases h1 : nI (Z.2.2.1 11) ≤ x
    · exact ⟨I, cp_X5_landHere (hS.k 3 5 (by decide) (by decide)) (hS.r 3 1 11 (by decide)) (hS.k 11 13 (by decide) (by decide)) ⟨fun e => absurd e h0, fun _ => ⟨fun _ => ⟨rfl, rfl⟩, fun e => absurd h1 e⟩⟩, h, FDr.refl I⟩
    · obtain ⟨k, hk, rfl⟩ := nI_of h0
      have n11 := hS.n 11 602 (by decide)
      have hk2 : k < 602 := by
        rw [n11, nI_leI (by decide) hk] at h1; omega
      have o : ∀ a, a ≠ 3 → a ≠ 11 → (rw1 I 11 (upd (I 11) k (I 3 3))) a = I a := fun a _ hb => rw1_n _ _ hb
      refine ⟨rw1 I 11 (upd (I 11) k (I 3 3)), cp_X5_landHere (hS.k 3 5 (by decide) (by decide)) (hS.r 3 1 11 (by decide)) (hS.k 11 13 (by decide) (by decide)) ⟨fun e => absurd e h0, fun _ => ⟨fun e => absurd e h1, fun _ => ⟨by rw [n11]; exact vp_in_nI hk2 (by decide), fun I2 h2 => ⟨rfl, by rw [h2, nI_clamp hk]⟩⟩⟩⟩, ?_, o⟩
      obtain ⟨b1, b2, b3, b4, b5, b6, l, b7, b8⟩ := h
      have e3 : (rw1 I 11 (upd (I 11) k (I 3 3))) 3 = I 3 := rw1_n _ _ (by decide)
      exact ⟨b1.o3 o, by rw [e3]; exact b2, by rw [e3]; exact b3, by rw [e3]; exact b4, b5, b6, l, b7, by rw [e3]; exact b8⟩
theorem fd_open (hS : Sh Z) {f j : Nat} (h : FDz Z I ts f j) {x : Int32} {I1 : Nat → Nat → Int32} (hI : I1 = rw1 I 3 (upd (I 3) 7 x)) : FDz Z I1 ts f j ∧ FDr I I1 := by
  obtain ⟨b1, b2, b3, b4, b5, b6, l, b7, b8⟩ := h
  have o : ∀ a, a ≠ 3 → a ≠ 11 → I1 a = I a := fun a ha _ => by rw [hI, rw1_n _ _ ha]
  have u : ∀ q, q ≠ 7 → I1 3 q = I 3 q := fun q hq => by rw [hI, rw1_s, upd_n _ _ hq]
  exact ⟨⟨b1.o3 o, by rw [u 5 (by decide)]; exact b2, by rw [u 8 (by decide)]; exact b3, by rw [u 9 (by decide)]; exact b4, b5, b6, l, b7, by rw [u 3 (by decide)]; exact b8⟩, o⟩
/-- in good order: an order more, take(), opens(), one open less, a jump's aim -/
theorem sp_order (hS : Sh Z) (hr : RDz Z I ts cl i n ords) (hl : ords.length < 602) (x : Nat) : ∃ I1, Cl g 1 mu_X5_order [rf g 3, .int (nI x)] (Z, I, L) none (Z, I1, L) ∧ RDz Z I1 ts cl i n (ords ++ [x]) ∧ FDr I I1 := by
  obtain ⟨h1, h2, h3, h4, h5, h6, h7, h8, h9, h10⟩ := hr
  obtain ⟨J1, q1⟩ : ∃ J, J = rw1 I 11 (upd (I 11) ords.length (nI x)) := ⟨_, rfl⟩
  obtain ⟨J2, q2⟩ : ∃ J, J = rw1 J1 3 (upd (J1 3) 3 (nI (ords.length + 1))) := ⟨_, rfl⟩
  have p1 : J1 3 = I 3 := by rw [q1, rw1_n _ _ (by decide)]
  have o2 : ∀ a, a ≠ 3 → a ≠ 11 → J2 a = I a := fun a ha hb => by rw [q2, rw1_n _ _ ha, q1, rw1_n _ _ hb]
  have u : ∀ q, q ≠ 3 → J2 3 q = I 3 q := fun q ha => by rw [q2, rw1_s, upd_n _ _ ha, p1]
  have len : (ords ++ [x]).length = ords.length + 1 := by rw [List.length_append, List.length_singleton]
  have n11 := hS.n 11 602 (by decide)
  refine ⟨J2, cp_X5_order (hS.k 3 5 (by decide) (by decide)) (hS.r 3 1 11 (by decide)) (hS.k 11 13 (by decide) (by decide)) ⟨fun e => ?_, fun _ => ?_⟩, ⟨h1.o3 o2, by rw [u 4 (by decide)]; exact h2, by rw [u 5 (by decide)]; exact h3, by rw [u 6 (by decide)]; exact h4, by rw [u 7 (by decide)]; exact h5, by rw [u 8 (by decide)]; exact h6, by rw [u 9 (by decide)]; exact h7, by rw [q2, rw1_s, upd_s, len], by omega, fun k v hk => ?_⟩, o2⟩
  · rw [n11, h8] at e
    exact absurd e (nI_ge hl (by decide))
  · rw [n11, h8, nI_clamp (by omega)]
    refine ⟨vp_in_nI hl (by decide), fun I2 hI2 I3 hI3 => ⟨rfl, ?_⟩⟩
    rw [← q1] at hI2
    rw [hI2, p1, h8, nI_1, ← p1, ← q2] at hI3
    rw [hI3]
  · rw [q2, rw1_n _ _ (by decide), q1, rw1_s]
    by_cases he : k = ords.length
    · rw [he] at hk ⊢
      rw [List.getElem?_append_right (Nat.le_refl _), Nat.sub_self] at hk
      rw [upd_s, Option.some.inj hk]
    · have hkl := (List.getElem?_eq_some_iff.mp hk).1
      rw [len] at hkl
      rw [List.getElem?_append_left (by omega)] at hk
      rw [upd_n _ _ he]; exact h10 k v hk
theorem sp_orderWith (hS : Sh Z) (hr : RDz Z I ts cl i n ords) (hl : ords.length + 1 < 602) (x y : Nat) : ∃ I1, Cl g 2 mu_X5_orderWith [rf g 3, .int (nI x), .int (nI y)] (Z, I, L) (some (.int (nI (ords.length + 1)))) (Z, I1, L) ∧ RDz Z I1 ts cl i n (ords ++ [x, y]) ∧ FDr I I1 := by
  obtain ⟨J1, a1, a2, a3⟩ := sp_order (g := g) (L := L) hS hr (by omega) x
  obtain ⟨J2, b1, b2, b3⟩ := sp_order (g := g) (L := L) hS a2 (by rw [List.length_append, List.length_singleton]; omega) y
  rw [List.append_assoc] at b2
  refine ⟨J2, cp_X5_orderWith (hS.k 3 5 (by decide) (by decide)) ⟨J1, L, a1, J2, L, b1, ?_, rfl⟩, b2, a3.trans b3⟩
  rw [b2.2.2.2.2.2.2.2.1, List.length_append]
  show some (Value.int (nI (ords.length + 1))) = some (Value.int (nI (ords.length + 1 + 1) - 1))
  rw [nI_pred]
theorem sp_land (hS : Sh Z) (hr : RDz Z I ts cl i n ords) {k : Nat} (hk : k < ords.length) : ∃ I1, Cl g 1 mu_X5_landHere [rf g 3, .int (nI k)] (Z, I, L) none (Z, I1, L) ∧ RDz Z I1 ts cl i n (ords.set k ords.length) ∧ FDr I I1 := by
  obtain ⟨h1, h2, h3, h4, h5, h6, h7, h8, h9, h10⟩ := hr
  have n11 := hS.n 11 602 (by decide)
  have o : ∀ a, a ≠ 3 → a ≠ 11 → (rw1 I 11 (upd (I 11) k (I 3 3))) a = I a := fun a _ hb => rw1_n _ _ hb
  have e3 : (rw1 I 11 (upd (I 11) k (I 3 3))) 3 = I 3 := rw1_n _ _ (by decide)
  refine ⟨rw1 I 11 (upd (I 11) k (I 3 3)), cp_X5_landHere (hS.k 3 5 (by decide) (by decide)) (hS.r 3 1 11 (by decide)) (hS.k 11 13 (by decide) (by decide)) ⟨fun e => absurd e (nI_pos (by omega)), fun _ => ⟨fun e => ?_, fun _ => ⟨by rw [n11]; exact vp_in_nI (by omega) (by decide), fun I2 h2 => ⟨rfl, by rw [h2, nI_clamp (by omega)]⟩⟩⟩⟩, ⟨h1.o3 o, by rw [e3]; exact h2, by rw [e3]; exact h3, by rw [e3]; exact h4, by rw [e3]; exact h5, by rw [e3]; exact h6, by rw [e3]; exact h7, by rw [e3, List.length_set]; exact h8, by rw [List.length_set]; exact h9, fun j v hj => ?_⟩, o⟩
  · rw [n11] at e
    exact absurd e (nI_ge (by omega) (by decide))
  · rw [rw1_s, h8]
    rw [List.getElem?_set] at hj
    by_cases he : k = j
    · rw [if_pos he, if_pos hk] at hj
      rw [← he, upd_s, Option.some.inj hj]
    · rw [if_neg he] at hj
      rw [upd_n _ _ (fun z => he z.symm)]; exact h10 j v hj
theorem sp_take (hS : Sh Z) (hr : RDz Z I ts cl i n ords) (hT : TSz ts) (hi : i < ts.length) {x : Nat} (hx : x < 2 ^ 31) : (kT ts i = x → ∃ I1, Cl g 4 mu_X5_take [rf g 3, .int (nI x)] (Z, I, L) none (Z, I1, L) ∧ RDz Z I1 ts cl (i + 1) n ords ∧ FDr I I1) ∧ (¬ kT ts i = x → ∃ I1, Cl g 4 mu_X5_take [rf g 3, .int (nI x)] (Z, I, L) none (Z, I1, L) ∧ FDz Z I1 ts 1 i ∧ FDr I I1) := by
  have hk := hT.2.2.2.1 i
  have hl := hT.2.1
  have q : I 3 5 = nI x ↔ kT ts i = x := by rw [hr.2.2.1]; exact nI_eq (by omega) hx
  constructor
  · intro he
    obtain ⟨I1, a1, a2, a3⟩ := sp_rnext (g := g) (L := L) hS hr (by omega)
    exact ⟨I1, cp_X5_take (hS.k 3 5 (by decide) (by decide)) ⟨fun e => absurd (q.mpr he) e, fun _ => ⟨I1, L, a1, rfl, rfl⟩⟩, a2, a3⟩
  · intro he
    obtain ⟨I1, a1, a2, a3⟩ := sp_rfail (g := g) (L := L) hS hr hi (f := 1) (by decide) (by decide)
    exact ⟨I1, cp_X5_take (hS.k 3 5 (by decide) (by decide)) ⟨fun _ => ⟨I1, L, a1, rfl, rfl⟩, fun e => absurd (q.mp e) he⟩, a2, a3⟩
theorem sp_opens (hS : Sh Z) (hr : RDz Z I ts cl i n ords) (hi : i < ts.length) (hn : n ≤ 8) : (n < 8 → ∃ I1, Cl g 4 mu_X5_opens [rf g 3] (Z, I, L) (some (.int 1)) (Z, I1, L) ∧ RDz Z I1 ts cl i (n + 1) ords ∧ FDr I I1) ∧ (¬ n < 8 → ∃ I1, Cl g 4 mu_X5_opens [rf g 3] (Z, I, L) (some (.int 0)) (Z, I1, L) ∧ FDz Z I1 ts 3 i ∧ FDr I I1) := by
  have q : I 3 7 < 8 ↔ n < 8 := by rw [hr.2.2.2.2.1]; exact nI_ltI (b := 8) (by omega) (by decide)
  constructor
  · intro hn8
    obtain ⟨h1, h2, h3, h4, h5, h6, h7, h8, h9, h10⟩ := id hr
    obtain ⟨J, hJ⟩ : ∃ J, J = rw1 I 3 (upd (I 3) 7 (nI (n + 1))) := ⟨_, rfl⟩
    have o : ∀ a, a ≠ 3 → a ≠ 11 → J a = I a := fun a ha _ => by rw [hJ, rw1_n _ _ ha]
    have u : ∀ q, q ≠ 7 → J 3 q = I 3 q := fun q hq => by rw [hJ, rw1_s, upd_n _ _ hq]
    refine ⟨J, cp_X5_opens (hS.k 3 5 (by decide) (by decide)) ⟨fun _ I1 hI1 => ⟨rfl, ?_⟩, fun e => absurd (q.mpr hn8) e⟩, ⟨h1.o3 o, by rw [u 4 (by decide)]; exact h2, by rw [u 5 (by decide)]; exact h3, by rw [u 6 (by decide)]; exact h4, by rw [hJ, rw1_s, upd_s], by rw [u 8 (by decide)]; exact h6, by rw [u 9 (by decide)]; exact h7, by rw [u 3 (by decide)]; exact h8, h9, fun k v hk => by rw [hJ, rw1_n _ _ (by decide)]; exact h10 k v hk⟩, o⟩
    rw [h5, nI_1, ← hJ] at hI1
    rw [hI1]
  · intro hn8
    obtain ⟨I1, a1, a2, a3⟩ := sp_rfail (g := g) (L := L) hS hr hi (f := 3) (by decide) (by decide)
    exact ⟨I1, cp_X5_opens (hS.k 3 5 (by decide) (by decide)) ⟨fun e => absurd (q.mp e) hn8, fun _ => ⟨I1, L, a1, rfl, rfl⟩⟩, a2, a3⟩
theorem rd_close (hr : RDz Z I ts cl i (n + 1) ords) {I1 : Nat → Nat → Int32} (hI : I1 = rw1 I 3 (upd (I 3) 7 (I 3 7 - 1))) : RDz Z I1 ts cl i n ords ∧ FDr I I1 := by
  obtain ⟨h1, h2, h3, h4, h5, h6, h7, h8, h9, h10⟩ := hr
  have o : ∀ a, a ≠ 3 → a ≠ 11 → I1 a = I a := fun a ha _ => by rw [hI, rw1_n _ _ ha]
  have u : ∀ q, q ≠ 7 → I1 3 q = I 3 q := fun q hq => by rw [hI, rw1_s, upd_n _ _ hq]
  exact ⟨⟨h1.o3 o, by rw [u 4 (by decide)]; exact h2, by rw [u 5 (by decide)]; exact h3, by rw [u 6 (by decide)]; exact h4, by rw [hI, rw1_s, upd_s, h5, nI_pred], by rw [u 8 (by decide)]; exact h6, by rw [u 9 (by decide)]; exact h7, by rw [u 3 (by decide)]; exact h8, h9, fun k v hk => by rw [hI, rw1_n _ _ (by decide)]; exact h10 k v hk⟩, o⟩
end RD
