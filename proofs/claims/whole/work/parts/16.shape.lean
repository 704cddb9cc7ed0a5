/-! where the cells stand behind the two constructors -/
def shT : List (Nat × Nat) := [(0, 11), (1, 2), (2, 13), (3, 5), (4, 9), (5, 2), (6, 13), (7, 2), (8, 13), (9, 2), (10, 13), (11, 13), (12, 13), (13, 4), (14, 13), (15, 13), (16, 14), (17, 14), (18, 8), (19, 2), (20, 13), (21, 2), (22, 13), (23, 2), (24, 13), (25, 2), (26, 13), (27, 2), (28, 13), (29, 2), (30, 13), (31, 2), (32, 13), (33, 2), (34, 13), (35, 2), (36, 13), (37, 2), (38, 13), (39, 16), (40, 2), (41, 13), (42, 8), (43, 2), (44, 13), (45, 2), (46, 13), (47, 2), (48, 13), (49, 2), (50, 13), (51, 2), (52, 13), (53, 2), (54, 13), (55, 2), (56, 13), (57, 2), (58, 13), (59, 2), (60, 13), (61, 2), (62, 13), (63, 16), (64, 2), (65, 13), (66, 3), (67, 13), (68, 10), (69, 13), (70, 13), (71, 15), (72, 13), (73, 13), (74, 1), (75, 13), (76, 12), (77, 13), (78, 13), (79, 13), (80, 13), (81, 13), (82, 13), (83, 14), (84, 15), (85, 13), (86, 13), (87, 13), (88, 13), (89, 13), (90, 13), (91, 13), (92, 14), (93, 14), (94, 14), (95, 13), (96, 13), (97, 13), (98, 13)]
def shR : List (Nat × Nat × Nat) := [(0, 0, 18), (0, 1, 42), (0, 2, 1), (0, 3, 3), (0, 4, 13), (0, 5, 66), (0, 6, 68), (0, 7, 74), (0, 8, 16), (0, 9, 17), (1, 0, 2), (3, 0, 4), (3, 1, 11), (3, 2, 12), (4, 0, 5), (4, 1, 7), (4, 2, 9), (5, 0, 6), (7, 0, 8), (9, 0, 10), (13, 0, 14), (13, 1, 15), (18, 2, 40), (18, 3, 19), (18, 4, 21), (18, 5, 23), (18, 6, 25), (18, 7, 27), (18, 8, 29), (18, 9, 31), (18, 10, 33), (18, 11, 35), (18, 12, 37), (18, 13, 39), (19, 0, 20), (21, 0, 22), (23, 0, 24), (25, 0, 26), (27, 0, 28), (29, 0, 30), (31, 0, 32), (33, 0, 34), (35, 0, 36), (37, 0, 38), (40, 0, 41), (42, 2, 64), (42, 3, 43), (42, 4, 45), (42, 5, 47), (42, 6, 49), (42, 7, 51), (42, 8, 53), (42, 9, 55), (42, 10, 57), (42, 11, 59), (42, 12, 61), (42, 13, 63), (43, 0, 44), (45, 0, 46), (47, 0, 48), (49, 0, 50), (51, 0, 52), (53, 0, 54), (55, 0, 56), (57, 0, 58), (59, 0, 60), (61, 0, 62), (64, 0, 65), (66, 0, 18), (66, 1, 13), (66, 2, 67), (68, 0, 18), (68, 1, 13), (68, 2, 69), (68, 3, 70), (68, 4, 71), (68, 5, 72), (68, 6, 73), (74, 0, 18), (74, 1, 66), (74, 2, 75), (76, 0, 77), (76, 1, 78), (76, 4, 79), (76, 5, 80), (76, 18, 81), (76, 24, 82), (76, 25, 83), (76, 26, 84), (76, 27, 85), (76, 28, 86), (76, 29, 87), (76, 30, 88), (76, 31, 89), (76, 32, 90), (76, 33, 91), (76, 36, 92), (76, 37, 93), (76, 38, 94), (76, 39, 95), (76, 40, 96), (76, 41, 97), (76, 42, 98)]
def shN : List (Nat × Nat) := [(2, 300), (6, 301), (8, 301), (10, 301), (11, 602), (12, 3), (14, 11), (15, 64), (16, 100), (17, 100), (20, 6), (22, 6), (24, 16), (26, 30), (28, 30), (30, 20), (32, 20), (34, 20), (36, 6), (38, 6), (39, 4), (44, 6), (46, 6), (48, 16), (50, 30), (52, 30), (54, 20), (56, 20), (58, 20), (60, 6), (62, 6), (63, 4), (69, 36), (70, 36), (71, 36), (72, 6), (73, 6), (75, 6), (77, 205), (78, 205), (79, 2480), (80, 300), (81, 160), (82, 11), (83, 330), (84, 330), (85, 1600), (86, 9003), (87, 3001), (88, 3001), (89, 3001), (90, 4096), (91, 3), (92, 100), (93, 100), (94, 72), (95, 12), (96, 72), (97, 6), (98, 20000)]
/-- the cells that stand for ever: their kinds, what refers to them, the rows' lengths -/
def Sh (Z : Zs) : Prop := 99 ≤ Z.2.2.2.1 ∧ (∀ q ∈ shT, Z.1 q.1 = q.2) ∧ (∀ q ∈ shR, Z.2.1 q.1 q.2.1 = some q.2.2) ∧ ∀ q ∈ shN, Z.2.2.1 q.1 = q.2
theorem Sh.k {Z : Zs} (h : Sh Z) (a t : Nat) (hm : (a, t) ∈ shT) (ha : a < 99) : KM Z a t := ⟨Nat.lt_of_lt_of_le ha h.1, h.2.1 _ hm⟩
theorem Sh.r {Z : Zs} (h : Sh Z) (a k b : Nat) (hm : (a, k, b) ∈ shR) : Z.2.1 a k = some b := h.2.2.1 _ hm
theorem Sh.n {Z : Zs} (h : Sh Z) (a n : Nat) (hm : (a, n) ∈ shN) : Z.2.2.1 a = n := h.2.2.2 _ hm
theorem Sh.mw {Z : Zs} (h : Sh Z) : MW Z 76 79 82 83 84 := ⟨h.k 76 12 (by decide) (by decide), h.r 76 4 79 (by decide), h.k 79 13 (by decide) (by decide), h.n 79 2480 (by decide), h.r 76 24 82 (by decide), h.k 82 13 (by decide) (by decide), h.n 82 11 (by decide), h.r 76 25 83 (by decide), h.k 83 14 (by decide) (by decide), h.n 83 330 (by decide), h.r 76 26 84 (by decide), h.k 84 15 (by decide) (by decide), h.n 84 330 (by decide)⟩
/-- Mind with an empty stack -/
def MQ0 (Z : Zs) (I : Nat → Nat → Int32) : Prop := MS Z I 13 14 15 []
/-! texts, by what they mean -/
abbrev EF : Type := (Nat → Int32) → Int32
abbrev EB : Type := (Nat → Int32) → Bool
/-- does, fears, likes -/
abbrev TX : Type := Option EF × Option EB × Option EF
/-- a clause in orders: where it starts, what it is worth -/
def CR (ords : List Nat) (start : Int32) (F : Option EF) : Prop := match F with
  | none => start = -1
  | some f => ∃ p, p < ords.length ∧ start = nI p ∧ ∀ env, ∃ n e, n ≤ ords.length ∧ Stn ords env n p [] e [f env] ∧ ords[e]? = some 33
/-- a Script of the class -/
def TC (Z : Zs) (I : Nat → Nat → Int32) (sc : Nat) (t : TX) : Prop := 99 ≤ sc ∧ KM Z sc 6 ∧ ∃ ar ords, 99 ≤ ar ∧ Z.2.1 sc 0 = some ar ∧ OA Z I ar ords ∧ CR ords (I sc 1) t.1 ∧ CR ords (I sc 2) (t.2.1.map (fun b env => b2i (b env))) ∧ CR ords (I sc 3) t.2.2
theorem TC.kept {Z : Zs} {I I1 : Nat → Nat → Int32} {sc : Nat} {t : TX} (h : TC Z I sc t) (hf : ∀ a, 99 ≤ a → a < Z.2.2.2.1 → I1 a = I a) : TC Z I1 sc t := by
  obtain ⟨h1, h2, ar, ords, h3, h4, h5, h6, h7, h8⟩ := h
  have e := hf sc h1 h2.1
  refine ⟨h1, h2, ar, ords, h3, h4, ⟨h5.1, h5.2.1, h5.2.2.1, fun k v hk => ?_⟩, by rw [e]; exact h6, by rw [e]; exact h7, by rw [e]; exact h8⟩
  rw [hf ar h3 h5.1.1]
  exact h5.2.2.2 k v hk
/-- a clause in the model's codes, of the text t: of the sort, none or one -/
def CM (Z : Zs) (I : Nat → Nat → Int32) (t sort : Nat) (Q : (cs : List (Nat × Nat)) → Prop) (has : Bool) : Prop := ∃ nc, nc ≤ 3 ∧ I 79 (620 * t) = nI nc ∧ (has = false → ∀ k, k < nc → ¬ I 79 (620 * t + 1 + 3 * k) = nI sort) ∧
  (has = true → ∃ k i cs, k < nc ∧ I 79 (620 * t + 1 + 3 * k) = nI sort ∧ (∀ j, j < k → ¬ I 79 (620 * t + 1 + 3 * j) = nI sort) ∧ I 79 (620 * t + 1 + 3 * k + 1) = nI i ∧ I 79 (620 * t + 1 + 3 * k + 2) = nI (i + cs.length) ∧ i + cs.length ≤ 302 ∧ CA Z I 79 (620 * t + 15) i cs ∧ Q cs)
def QF (F : Option EF) (cs : List (Nat × Nat)) : Prop := ∀ f, F = some f → ∀ env, (∀ j, j < 11 → rg (env j)) → Wn env cs [] [] [f env] []
def QB (F : Option EB) (cs : List (Nat × Nat)) : Prop := ∀ f, F = some f → ∀ env, (∀ j, j < 11 → rg (env j)) → Wn env cs [] [] [] [f env]
/-- a text of the model -/
def TM (Z : Zs) (I : Nat → Nat → Int32) (k : Nat) (t : TX) : Prop := CM Z I k 0 (QF t.1) t.1.isSome ∧ CM Z I k 1 (QB t.2.1) t.2.1.isSome ∧ CM Z I k 2 (QF t.2.2) t.2.2.isSome
/-- a text heeds the names of its sort alone -/
def TXok (t : TX) : Prop := (∀ f, t.1 = some f → ∀ e e' : Nat → Int32, (∀ k, k < 6 → e k = e' k) → f e = f e') ∧ (∀ f, t.2.1 = some f → ∀ e e' : Nat → Int32, (∀ k, k < 6 → e k = e' k) → f e = f e') ∧ ∀ f, t.2.2 = some f → ∀ e e' : Nat → Int32, (∀ k, 6 ≤ k → k < 11 → e k = e' k) → f e = f e'
/-! a step -/
def ahd (w h p : Nat) : Option Nat := if p % 4 = 0 then (if 0 < p / 4 / w then some (p / 4 - w) else none) else if p % 4 = 1 then (if p / 4 % w < w - 1 then some (p / 4 + 1) else none) else if p % 4 = 2 then (if p / 4 / w < h - 1 then some (p / 4 + w) else none) else (if 0 < p / 4 % w then some (p / 4 - 1) else none)
def kah (w h : Nat) (K : List Nat) (p : Nat) : Nat := match ahd w h p with
  | none => 1
  | some c => K.getD c 0
def envS (w : Nat) (K : List Nat) (p tap ka : Nat) : Nat → Int32 := fun k => if k = 0 then nI tap else if k = 1 then nI (p % 4) else if k = 2 then nI (p / 4 % w) else if k = 3 then nI (p / 4 / w) else if k = 4 then nI (K.getD (p / 4) 0) else if k = 5 then nI ka else 0
def wishF (t : TX) (env : Nat → Int32) (tap : Nat) : Nat := match t.1 with
  | none => if tap = 3 then 0 else tap + 1
  | some f => if f env < 0 then 0 else if 4 < f env then 4 else (f env).toNatClampNeg
def fearF (t : TX) (env : Nat → Int32) : Bool := match t.2.1 with
  | none => false
  | some b => b env
def turnF (p q : Nat) : Nat := p / 4 * 4 + (p % 4 + q) % 4
def deedF (w h : Nat) (p ka wish : Nat) : Nat := if wish = 1 then (if ka = 1 then p + 200 else 4 * (ahd w h p).getD 0 + p % 4) else if wish = 2 then turnF p 3 else if wish = 3 then turnF p 1 else if wish = 4 then turnF p 2 else p
/-- what goes() answers -/
def stepF (w h : Nat) (K : List Nat) (t : TX) (p tap : Nat) : Nat := if fearF t (envS w K p tap (kah w h K p)) then p + 400 else deedF w h p (kah w h K p) (wishF t (envS w K p tap (kah w h K p)) tap)
theorem ahd_lt {w h p c : Nat} (hw : 2 ≤ w) (hh : 2 ≤ h) (hp : p < 4 * (w * h)) (hc : ahd w h p = some c) : c < w * h := by
  have h1 : p / 4 < w * h := by omega
  have h2 : p / 4 / w < h := Nat.div_lt_of_lt_mul h1
  have h3 := Nat.div_add_mod (p / 4) w
  have h4 := Nat.mod_lt (p / 4) (show 0 < w by omega)
  unfold ahd at hc
  split at hc
  · split at hc
    · cases hc; omega
    · cases hc
  split at hc
  · split at hc
    · cases hc
      have : w * (p / 4 / w) + w ≤ w * h := by rw [← Nat.mul_succ]; exact Nat.mul_le_mul_left w h2
      omega
    · cases hc
  split at hc
  · split at hc
    · cases hc
      have : w * (p / 4 / w) + 2 * w ≤ w * h := by
        have : p / 4 / w + 2 ≤ h := by omega
        calc w * (p / 4 / w) + 2 * w = w * (p / 4 / w + 2) := by rw [Nat.mul_add, Nat.mul_comm 2 w]
          _ ≤ w * h := Nat.mul_le_mul_left w this
      omega
    · cases hc
  · split at hc
    · cases hc; omega
    · cases hc
