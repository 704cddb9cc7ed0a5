/-! the model's search: its chains -/
def sumR (r : TR) : Nat := ((r.1 * 101 + r.2.1) * 101 + r.2.2) % 4096
def lastR (C : List TR) (v : Nat) : Nat → Option Nat
  | 0 => none
  | m + 1 => if sumR (C.getD m (0, 0, 0)) = v then some m else lastR C v m
theorem lastR_some {C : List TR} {v : Nat} : ∀ {m k : Nat}, lastR C v m = some k → k < m ∧ sumR (C.getD k (0, 0, 0)) = v ∧ ∀ j, k < j → j < m → ¬ sumR (C.getD j (0, 0, 0)) = v := by
  intro m
  induction m with
  | zero => intro k hk; cases hk
  | succ m ih =>
    intro k hk
    unfold lastR at hk
    split at hk
    · cases hk
      rename_i hs
      exact ⟨Nat.lt_succ_self _, hs, fun j h1 h2 => by omega⟩
    · rename_i hs
      obtain ⟨a1, a2, a3⟩ := ih hk
      refine ⟨by omega, a2, fun j h1 h2 => ?_⟩
      by_cases hj : j = m
      · rw [hj]; exact hs
      · exact a3 j h1 (by omega)
theorem lastR_none {C : List TR} {v : Nat} : ∀ {m : Nat}, lastR C v m = none → ∀ j, j < m → ¬ sumR (C.getD j (0, 0, 0)) = v := by
  intro m
  induction m with
  | zero => intro _ j hj; omega
  | succ m ih =>
    intro hk j hj
    unfold lastR at hk
    split at hk
    · cases hk
    · rename_i hs
      by_cases he : j = m
      · rw [he]; exact hs
      · exact ih hk j (by omega)
theorem lastR_app {C : List TR} {r : TR} {v : Nat} : ∀ {m : Nat}, m ≤ C.length → lastR (C ++ [r]) v m = lastR C v m := by
  intro m
  induction m with
  | zero => intro _; rfl
  | succ m ih =>
    intro hm
    unfold lastR
    have e : (C ++ [r]).getD m (0, 0, 0) = C.getD m (0, 0, 0) := by rw [getD_app, if_pos (show m < C.length by omega)]
    rw [e, ih (by omega)]
/-- the model's rows hold what is found -/
def HMz (I : Nat → Nat → Int32) (s : ST) : Prop := I 76 35 = nI s.1.length ∧ (∀ k i, k < s.1.length → i < 3 → I 86 (3 * k + i) = nI (pr (s.1.getD k (0, 0, 0)) i)) ∧ (∀ k, 0 < k → k < s.1.length → I 87 k = nI (s.2.1.getD k 0) ∧ I 88 k = nI (s.2.2.getD k 0)) ∧ (∀ v, v < 4096 → I 90 v = oI (lastR s.1 v s.1.length)) ∧ ∀ k, k < s.1.length → I 89 k = oI (lastR s.1 (sumR (s.1.getD k (0, 0, 0))) k)
theorem upd_s (f : Nat → Int32) (k : Nat) (v : Int32) : upd f k v k = v := if_pos rfl
theorem upd_n (f : Nat → Int32) {k j : Nat} (v : Int32) (h : j ≠ k) : upd f k v j = f j := if_neg h
theorem HMz.put {I I1 : Nat → Nat → Int32} {s : ST} {r : TR} {hd tap : Nat} {x4 x5 : Int32} (k : HMz I s) (hx : 0 < s.1.length → x4 = nI hd ∧ x5 = nI tap) (hF : s.2.1.length = s.1.length) (hB : s.2.2.length = s.1.length)
    (a1 : I1 76 = upd (I 76) 35 (nI (s.1.length + 1))) (a2 : I1 86 = upd (upd (upd (I 86) (3 * s.1.length) (nI r.1)) (3 * s.1.length + 1) (nI r.2.1)) (3 * s.1.length + 2) (nI r.2.2)) (a3 : I1 87 = upd (I 87) s.1.length x4) (a4 : I1 88 = upd (I 88) s.1.length x5) (a5 : I1 89 = upd (I 89) s.1.length (I 90 (sumR r))) (a6 : I1 90 = upd (I 90) (sumR r) (nI s.1.length)) : HMz I1 (s.1 ++ [r], s.2.1 ++ [hd], s.2.2 ++ [tap]) := by
  obtain ⟨k1, k2, k3, k4, k5⟩ := k
  have len : (s.1 ++ [r]).length = s.1.length + 1 := by rw [List.length_append, List.length_singleton]
  refine ⟨?_, fun j i hj hi => ?_, fun j h0 hj => ?_, fun v hv => ?_, fun j hj => ?_⟩
  · show I1 76 35 = nI (s.1 ++ [r]).length
    rw [a1, len, upd_s]
  · have hj : j < (s.1 ++ [r]).length := hj
    rw [len] at hj
    show I1 86 (3 * j + i) = nI (pr ((s.1 ++ [r]).getD j (0, 0, 0)) i)
    rw [a2, getD_app]
    by_cases he : j = s.1.length
    · rw [if_neg (by omega), if_pos he, he]
      have cs : i = 0 ∨ i = 1 ∨ i = 2 := by omega
      rcases cs with rfl | rfl | rfl
      · rw [upd_n _ _ (by omega), upd_n _ _ (by omega), Nat.add_zero, upd_s]; rfl
      · rw [upd_n _ _ (by omega), upd_s]; rfl
      · rw [upd_s]; rfl
    · rw [if_pos (by omega), upd_n _ _ (by omega), upd_n _ _ (by omega), upd_n _ _ (by omega)]
      exact k2 j i (by omega) hi
  · have hj : j < (s.1 ++ [r]).length := hj
    rw [len] at hj
    show I1 87 j = nI ((s.2.1 ++ [hd]).getD j 0) ∧ I1 88 j = nI ((s.2.2 ++ [tap]).getD j 0)
    rw [a3, a4, getD_app, getD_app, hF, hB]
    by_cases he : j = s.1.length
    · obtain ⟨z1, z2⟩ := hx (by omega)
      rw [if_neg (by omega), if_pos he, if_neg (by omega), if_pos he, he, upd_s, upd_s, z1, z2]; exact ⟨rfl, rfl⟩
    · rw [if_pos (by omega), if_pos (by omega), upd_n _ _ he, upd_n _ _ he]
      exact k3 j h0 (by omega)
  · show I1 90 v = oI (lastR (s.1 ++ [r]) v (s.1 ++ [r]).length)
    rw [len, a6]
    show _ = oI (if sumR ((s.1 ++ [r]).getD s.1.length (0, 0, 0)) = v then some s.1.length else lastR (s.1 ++ [r]) v s.1.length)
    have eg : (s.1 ++ [r]).getD s.1.length (0, 0, 0) = r := by rw [getD_app, if_neg (Nat.lt_irrefl _), if_pos rfl]
    rw [eg, lastR_app (Nat.le_refl _)]
    by_cases he : v = sumR r
    · rw [if_pos he.symm, he, upd_s]; rfl
    · rw [if_neg (fun z => he z.symm), upd_n _ _ he]; exact k4 v hv
  · have hj : j < (s.1 ++ [r]).length := hj
    rw [len] at hj
    show I1 89 j = oI (lastR (s.1 ++ [r]) (sumR ((s.1 ++ [r]).getD j (0, 0, 0))) j)
    rw [lastR_app (by omega), a5, getD_app]
    by_cases he : j = s.1.length
    · rw [if_neg (by omega), if_pos he, he, upd_s]
      exact k4 (sumR r) (Nat.mod_lt _ (by decide))
    · rw [if_pos (by omega), upd_n _ _ he]; exact k5 j (by omega)
section MSEARCH
variable {g : GE} {Z : Zs} {I : Nat → Nat → Int32} {L : Nat → Nat → Int64} {w h : Nat} {S : Nat → List Nat} {tx : List TX}
theorem ik_run (hS : Sh Z) {s : ST} (hM : HMz I s) (hl : s.1.length ≤ 3000) {r : TR} (hr : ∀ i, i < 3 → pr r i < 2 ^ 31) (hC : ∀ k i, k < s.1.length → i < 3 → pr (s.1.getD k (0, 0, 0)) i < 2 ^ 31) {x4 x5 : Int32} : ∀ (f m : Nat), m ≤ f → m ≤ s.1.length → (∀ j, m ≤ j → j < s.1.length → s.1.getD j (0, 0, 0) ≠ r) →
    (r ∈ s.1 → Lp_X12_isKept_17 g 2 76 (nI r.1) (nI r.2.1) (nI r.2.2) x4 x5 (nI (sumR r)) (oI (lastR s.1 (sumR r) m)) (Z, I, L) (some (.int 1)) (Z, I, L)) ∧
    (r ∉ s.1 → ∀ R M', Lp_X12_isKept_17 g 2 76 (nI r.1) (nI r.2.1) (nI r.2.2) x4 x5 (nI (sumR r)) (-1) (Z, I, L) R M' → Lp_X12_isKept_17 g 2 76 (nI r.1) (nI r.2.1) (nI r.2.2) x4 x5 (nI (sumR r)) (oI (lastR s.1 (sumR r) m)) (Z, I, L) R M') := by
  obtain ⟨k1, k2, k3, k4, k5⟩ := hM
  have wp := fun (R : Option Value) (M' : Mem) (u7 : Int32) => @wp_X12_isKept_17 g Z I L R M' 76 (nI r.1) (nI r.2.1) (nI r.2.2) x4 x5 (nI (sumR r)) u7 86 87 88 89 90 (hS.k 76 12 (by decide) (by decide)) (hS.r 76 28 86 (by decide)) (hS.k 86 13 (by decide) (by decide)) (hS.r 76 29 87 (by decide)) (hS.k 87 13 (by decide) (by decide)) (hS.r 76 30 88 (by decide)) (hS.k 88 13 (by decide) (by decide)) (hS.r 76 31 89 (by decide)) (hS.k 89 13 (by decide) (by decide)) (hS.r 76 32 90 (by decide)) (hS.k 90 13 (by decide) (by decide))
  have n86 := hS.n 86 9003 (by decide)
  have n89 := hS.n 89 3001 (by decide)
  intro f
  induction f with
  | zero =>
    intro m hm hml hj
    have : m = 0 := by omega
    subst this
    refine ⟨fun hmem => ?_, fun _ R M' hc => hc⟩
    obtain ⟨i, hi, hi2⟩ := List.mem_iff_getElem.mp hmem
    exact absurd (by rw [List.getD_eq_getElem?_getD, List.getElem?_eq_getElem hi]; exact hi2) (hj i (Nat.zero_le _) hi)
  | succ f ih =>
    intro m hm hml hj
    cases hla : lastR s.1 (sumR r) m with
    | none =>
      refine ⟨fun hmem => ?_, fun _ R M' hc => hc⟩
      exfalso
      obtain ⟨i, hi, hi2⟩ := List.mem_iff_getElem.mp hmem
      have ei : s.1.getD i (0, 0, 0) = r := by rw [List.getD_eq_getElem?_getD, List.getElem?_eq_getElem hi]; exact hi2
      by_cases him : i < m
      · exact lastR_none hla i him (by rw [ei])
      · exact hj i (by omega) hi ei
    | some k =>
      obtain ⟨a1, a2, a3⟩ := lastR_some hla
      have hk3 : k < 3000 := by omega
      have e3 : (3 : Int32) * nI k = nI (3 * k) := pk_mul 3 k
      have e31 : nI (3 * k) + 1 = nI (3 * k + 1) := nI_1 _
      have e32 : nI (3 * k) + 2 = nI (3 * k + 2) := nI_add _ 2
      have c0 : I 86 (3 * k) = nI (s.1.getD k (0, 0, 0)).1 := k2 k 0 (by omega) (by decide)
      have c1 : I 86 (3 * k + 1) = nI (s.1.getD k (0, 0, 0)).2.1 := k2 k 1 (by omega) (by decide)
      have c2 : I 86 (3 * k + 2) = nI (s.1.getD k (0, 0, 0)).2.2 := k2 k 2 (by omega) (by decide)
      have b0 : (s.1.getD k (0, 0, 0)).1 < 2 ^ 31 := hC k 0 (by omega) (by decide)
      have b1 : (s.1.getD k (0, 0, 0)).2.1 < 2 ^ 31 := hC k 1 (by omega) (by decide)
      have b2 : (s.1.getD k (0, 0, 0)).2.2 < 2 ^ 31 := hC k 2 (by omega) (by decide)
      have r0 : r.1 < 2 ^ 31 := hr 0 (by decide)
      have r1 : r.2.1 < 2 ^ 31 := hr 1 (by decide)
      have r2 : r.2.2 < 2 ^ 31 := hr 2 (by decide)
      have v0 : vp_in (nI (3 * k)) (Z.2.2.1 86) := by rw [n86]; exact vp_in_nI (by omega) (by decide)
      have v1 : vp_in (nI (3 * k + 1)) (Z.2.2.1 86) := by rw [n86]; exact vp_in_nI (by omega) (by decide)
      have v2 : vp_in (nI (3 * k + 2)) (Z.2.2.1 86) := by rw [n86]; exact vp_in_nI (by omega) (by decide)
      have vk : vp_in (nI k) (Z.2.2.1 89) := by rw [n89]; exact vp_in_nI (by omega) (by decide)
      have ek : I 89 (nI k).toNatClampNeg = oI (lastR s.1 (sumR r) k) := by rw [nI_clamp (by omega), k5 k (by omega), a2]
      have t0 : (nI (3 * k)).toNatClampNeg = 3 * k := nI_clamp (by omega)
      have t1 : (nI (3 * k + 1)).toNatClampNeg = 3 * k + 1 := nI_clamp (by omega)
      have t2 : (nI (3 * k + 2)).toNatClampNeg = 3 * k + 2 := nI_clamp (by omega)
      have np : ¬ oI (some k) < 0 := nI_pos (by omega)
      by_cases heq : s.1.getD k (0, 0, 0) = r
      · have hmem : r ∈ s.1 := by rw [← heq]; exact getD_mem (by omega)
        refine ⟨fun _ => wp _ _ _ ⟨fun e => absurd e np, fun _ => ?_⟩, fun hn => absurd hmem hn⟩
        show vp_in (3 * nI k) _ ∧ _
        rw [show oI (some k) = nI k from rfl, e3, e31, e32, t0, t1, t2, c0, c1, c2, heq]
        exact ⟨v0, fun e => absurd rfl e, fun _ => ⟨v1, fun e => absurd rfl e, fun _ => ⟨v2, fun e => absurd rfl e, fun _ => ⟨rfl, rfl⟩⟩⟩⟩
      · have nx : ∀ (R : Option Value) (M' : Mem), Lp_X12_isKept_17 g 2 76 (nI r.1) (nI r.2.1) (nI r.2.2) x4 x5 (nI (sumR r)) (oI (lastR s.1 (sumR r) k)) (Z, I, L) R M' → Lp_X12_isKept_17 g 2 76 (nI r.1) (nI r.2.1) (nI r.2.2) x4 x5 (nI (sumR r)) (oI (some k)) (Z, I, L) R M' := fun R M' hc => by
          refine wp R M' _ ⟨fun e => absurd e np, fun _ => ?_⟩
          show vp_in (3 * nI k) _ ∧ _
          rw [show oI (some k) = nI k from rfl, e3, e31, e32, t0, t1, t2, c0, c1, c2]
          refine ⟨v0, fun _ => ⟨vk, fun y hy => by rw [hy, ek]; exact hc⟩, fun q0 => ⟨v1, fun _ => ⟨vk, fun y hy => by rw [hy, ek]; exact hc⟩, fun q1 => ⟨v2, fun _ => ⟨vk, fun y hy => by rw [hy, ek]; exact hc⟩, fun q2 => absurd ?_ heq⟩⟩⟩
          have z0 := (nI_eq b0 r0).mp q0
          have z1 := (nI_eq b1 r1).mp q1
          have z2 := (nI_eq b2 r2).mp q2
          exact Prod.ext z0 (Prod.ext z1 z2)
        obtain ⟨i1, i2⟩ := ih k (by omega) (by omega) (fun j h1 h2 => by
          by_cases hjk : j = k
          · rw [hjk]; exact heq
          · by_cases hjm : j < m
            · exact fun z => a3 j (by omega) hjm (by rw [z])
            · exact hj j (by omega) h2)
        exact ⟨fun hmem => nx _ _ (i1 hmem), fun hn R M' hc => nx R M' (i2 hn R M' hc)⟩
theorem sum_eq {r : TR} (hr : ∀ i, i < 3 → pr r i < 100) : (((nI r.1 * 101) + nI r.2.1) * 101 + nI r.2.2) &&& 4095 = nI (sumR r) := by
  have r0 : r.1 < 100 := hr 0 (by decide)
  have r1 : r.2.1 < 100 := hr 1 (by decide)
  have r2 : r.2.2 < 100 := hr 2 (by decide)
  rw [show nI r.1 * (101 : Int32) = nI (r.1 * 101) from pk_mul _ 101, nI_add, show nI (r.1 * 101 + r.2.1) * (101 : Int32) = nI ((r.1 * 101 + r.2.1) * 101) from pk_mul _ 101, nI_add, pk_andN (m := 4095) (by omega) 12 (by decide)]
  rfl
/-- isKept: is the row there, or is there room for it -/
theorem ms_isKept (hS : Sh Z) {s : ST} (hM : HMz I s) (hl : s.1.length ≤ 3000) {r : TR} (hr : ∀ i, i < 3 → pr r i < 100) (hC : ∀ k i, k < s.1.length → i < 3 → pr (s.1.getD k (0, 0, 0)) i < 100) {x4 x5 : Int32} :
    (r ∈ s.1 → Cl g 2 mu_X12_isKept [rf g 76, .int (nI r.1), .int (nI r.2.1), .int (nI r.2.2), .int x4, .int x5] (Z, I, L) (some (.int 1)) (Z, I, L)) ∧
    (r ∉ s.1 → s.1.length = 3000 → Cl g 2 mu_X12_isKept [rf g 76, .int (nI r.1), .int (nI r.2.1), .int (nI r.2.2), .int x4, .int x5] (Z, I, L) (some (.int 0)) (Z, I, L)) ∧
    (r ∉ s.1 → s.1.length < 3000 → ∃ I1, Cl g 2 mu_X12_isKept [rf g 76, .int (nI r.1), .int (nI r.2.1), .int (nI r.2.2), .int x4, .int x5] (Z, I, L) (some (.int 1)) (Z, I1, L) ∧ I1 76 = upd (I 76) 35 (nI (s.1.length + 1)) ∧ I1 86 = upd (upd (upd (I 86) (3 * s.1.length) (nI r.1)) (3 * s.1.length + 1) (nI r.2.1)) (3 * s.1.length + 2) (nI r.2.2) ∧ I1 87 = upd (I 87) s.1.length x4 ∧ I1 88 = upd (I 88) s.1.length x5 ∧ I1 89 = upd (I 89) s.1.length (I 90 (sumR r)) ∧ I1 90 = upd (I 90) (sumR r) (nI s.1.length) ∧ ∀ a, a ≠ 76 → a ≠ 86 → a ≠ 87 → a ≠ 88 → a ≠ 89 → a ≠ 90 → I1 a = I a) := by
  have hsl : sumR r < 4096 := Nat.mod_lt _ (by decide)
  have n86 := hS.n 86 9003 (by decide)
  have n87 := hS.n 87 3001 (by decide)
  have n88 := hS.n 88 3001 (by decide)
  have n89 := hS.n 89 3001 (by decide)
  have n90 := hS.n 90 4096 (by decide)
  have h35 := hM.1
  obtain ⟨i1, i2⟩ := ik_run (g := g) (L := L) (x4 := x4) (x5 := x5) hS hM hl (r := r) (fun i hi => by have := hr i hi; omega) (fun k i hk hi => by have := hC k i hk hi; omega) s.1.length s.1.length (Nat.le_refl _) (Nat.le_refl _) (fun j h1 h2 => by omega)
  have st : ∀ (R : Option Value) (M' : Mem), Lp_X12_isKept_17 g 2 76 (nI r.1) (nI r.2.1) (nI r.2.2) x4 x5 (nI (sumR r)) (oI (lastR s.1 (sumR r) s.1.length)) (Z, I, L) R M' → Cl g 2 mu_X12_isKept [rf g 76, .int (nI r.1), .int (nI r.2.1), .int (nI r.2.2), .int x4, .int x5] (Z, I, L) R M' := fun R M' hc => by
    refine cp_X12_isKept (hS.k 76 12 (by decide) (by decide)) (hS.r 76 32 90 (by decide)) (hS.k 90 13 (by decide) (by decide)) ⟨nI (sumR r), cp_X12_sumOf ⟨by rw [sum_eq hr], rfl⟩, by rw [n90]; exact vp_in_nI hsl (by decide), fun y hy => ?_⟩
    rw [hy, nI_clamp (by omega), hM.2.2.2.1 _ hsl]
    exact hc
  have wp := fun (R : Option Value) (M' : Mem) (u7 : Int32) => @wp_X12_isKept_17 g Z I L R M' 76 (nI r.1) (nI r.2.1) (nI r.2.2) x4 x5 (nI (sumR r)) u7 86 87 88 89 90 (hS.k 76 12 (by decide) (by decide)) (hS.r 76 28 86 (by decide)) (hS.k 86 13 (by decide) (by decide)) (hS.r 76 29 87 (by decide)) (hS.k 87 13 (by decide) (by decide)) (hS.r 76 30 88 (by decide)) (hS.k 88 13 (by decide) (by decide)) (hS.r 76 31 89 (by decide)) (hS.k 89 13 (by decide) (by decide)) (hS.r 76 32 90 (by decide)) (hS.k 90 13 (by decide) (by decide))
  refine ⟨fun hmem => st _ _ (i1 hmem), fun hn h3 => st _ _ (i2 hn _ _ (wp _ _ _ ⟨fun _ => ⟨fun e => ?_, fun _ => ⟨rfl, rfl⟩⟩, fun e => absurd (by decide) e⟩)), fun hn h3 => ?_⟩
  · rw [h35, h3] at e
    exact absurd rfl e
  obtain ⟨l, hll⟩ : ∃ l, l = s.1.length := ⟨_, rfl⟩
  rw [← hll] at h35 h3 ⊢
  obtain ⟨J1, q1⟩ : ∃ J, J = rw1 I 86 (upd (I 86) (3 * l) (nI r.1)) := ⟨_, rfl⟩
  obtain ⟨J2, q2⟩ : ∃ J, J = rw1 J1 86 (upd (J1 86) (3 * l + 1) (nI r.2.1)) := ⟨_, rfl⟩
  obtain ⟨J3, q3⟩ : ∃ J, J = rw1 J2 86 (upd (J2 86) (3 * l + 2) (nI r.2.2)) := ⟨_, rfl⟩
  obtain ⟨J4, q4⟩ : ∃ J, J = rw1 J3 87 (upd (J3 87) l x4) := ⟨_, rfl⟩
  obtain ⟨J5, q5⟩ : ∃ J, J = rw1 J4 88 (upd (J4 88) l x5) := ⟨_, rfl⟩
  obtain ⟨J6, q6⟩ : ∃ J, J = rw1 J5 89 (upd (J5 89) l (J5 90 (sumR r))) := ⟨_, rfl⟩
  obtain ⟨J7, q7⟩ : ∃ J, J = rw1 J6 90 (upd (J6 90) (sumR r) (nI l)) := ⟨_, rfl⟩
  obtain ⟨J8, q8⟩ : ∃ J, J = rw1 J7 76 (upd (J7 76) 35 (nI (l + 1))) := ⟨_, rfl⟩
  have o1 : ∀ a, a ≠ 86 → J1 a = I a := fun a ha => by rw [q1, rw1_n _ _ ha]
  have o2 : ∀ a, a ≠ 86 → J2 a = I a := fun a ha => by rw [q2, rw1_n _ _ ha, o1 a ha]
  have o3 : ∀ a, a ≠ 86 → J3 a = I a := fun a ha => by rw [q3, rw1_n _ _ ha, o2 a ha]
  have o4 : ∀ a, a ≠ 86 → a ≠ 87 → J4 a = I a := fun a ha hb => by rw [q4, rw1_n _ _ hb, o3 a ha]
  have o5 : ∀ a, a ≠ 86 → a ≠ 87 → a ≠ 88 → J5 a = I a := fun a ha hb hc => by rw [q5, rw1_n _ _ hc, o4 a ha hb]
  have o6 : ∀ a, a ≠ 86 → a ≠ 87 → a ≠ 88 → a ≠ 89 → J6 a = I a := fun a ha hb hc hd => by rw [q6, rw1_n _ _ hd, o5 a ha hb hc]
  have o7 : ∀ a, a ≠ 86 → a ≠ 87 → a ≠ 88 → a ≠ 89 → a ≠ 90 → J7 a = I a := fun a ha hb hc hd he => by rw [q7, rw1_n _ _ he, o6 a ha hb hc hd]
  have e3 : (3 : Int32) * nI l = nI (3 * l) := pk_mul 3 l
  have e31 : nI (3 * l) + 1 = nI (3 * l + 1) := nI_1 _
  have e32 : nI (3 * l) + 2 = nI (3 * l + 2) := nI_add _ 2
  have t0 : (nI (3 * l)).toNatClampNeg = 3 * l := nI_clamp (by omega)
  have t1 : (nI (3 * l + 1)).toNatClampNeg = 3 * l + 1 := nI_clamp (by omega)
  have t2 : (nI (3 * l + 2)).toNatClampNeg = 3 * l + 2 := nI_clamp (by omega)
  have tl : (nI l).toNatClampNeg = l := nI_clamp (by omega)
  have ts : (nI (sumR r)).toNatClampNeg = sumR r := nI_clamp (by omega)
  refine ⟨J8, st _ _ (i2 hn _ _ (wp _ _ _ ⟨fun _ => ⟨fun _ => ?_, fun e => ?_⟩, fun e => absurd (by decide) e⟩)), ?_, ?_, ?_, ?_, ?_, ?_, fun a h0 h1 h2 h3 h4 h5 => by rw [q8, rw1_n _ _ h0, o7 a h1 h2 h3 h4 h5]⟩
  · rw [h35, e3, t0]
    refine ⟨by rw [n86]; exact vp_in_nI (by omega) (by decide), fun I2 h2 => ?_⟩
    rw [← q1] at h2
    rw [h2, o1 76 (by decide), h35, e3, e31, t1]
    refine ⟨by rw [n86]; exact vp_in_nI (by omega) (by decide), fun I4 h4 => ?_⟩
    rw [← q2] at h4
    rw [h4, o2 76 (by decide), h35, e3, e32, t2]
    refine ⟨by rw [n86]; exact vp_in_nI (by omega) (by decide), fun I6 h6 => ?_⟩
    rw [← q3] at h6
    rw [h6, o3 76 (by decide), h35, tl]
    refine ⟨by rw [n87]; exact vp_in_nI (by omega) (by decide), fun I8 h8 => ?_⟩
    rw [← q4] at h8
    rw [h8, o4 76 (by decide) (by decide), h35, tl]
    refine ⟨by rw [n88]; exact vp_in_nI (by omega) (by decide), fun I10 h10 => ?_⟩
    rw [← q5] at h10
    rw [h10, o5 76 (by decide) (by decide) (by decide), h35, tl, ts]
    refine ⟨by rw [n90]; exact vp_in_nI hsl (by decide), by rw [n89]; exact vp_in_nI (by omega) (by decide), fun I13 h13 => ?_⟩
    rw [← q6] at h13
    rw [h13, o6 76 (by decide) (by decide) (by decide) (by decide), h35]
    refine ⟨by rw [n90]; exact vp_in_nI hsl (by decide), fun I15 h15 I16 h16 => ⟨rfl, ?_⟩⟩
    rw [← q7] at h15
    rw [h15, o7 76 (by decide) (by decide) (by decide) (by decide) (by decide), h35, nI_1, ← o7 76 (by decide) (by decide) (by decide) (by decide) (by decide), ← q8] at h16
    rw [h16]
  · rw [h35] at e
    exact absurd ((nI_eq (b := 3000) (by omega) (by decide)).mp e) (by omega)
  · rw [q8, rw1_s, o7 76 (by decide) (by decide) (by decide) (by decide) (by decide)]
  · rw [q8, rw1_n _ _ (by decide), q7, rw1_n _ _ (by decide), q6, rw1_n _ _ (by decide), q5, rw1_n _ _ (by decide), q4, rw1_n _ _ (by decide), q3, rw1_s, q2, rw1_s, q1, rw1_s]
  · rw [q8, rw1_n _ _ (by decide), q7, rw1_n _ _ (by decide), q6, rw1_n _ _ (by decide), q5, rw1_n _ _ (by decide), q4, rw1_s, o3 87 (by decide)]
  · rw [q8, rw1_n _ _ (by decide), q7, rw1_n _ _ (by decide), q6, rw1_n _ _ (by decide), q5, rw1_s, o4 88 (by decide) (by decide)]
  · rw [q8, rw1_n _ _ (by decide), q7, rw1_n _ _ (by decide), q6, rw1_s, o5 89 (by decide) (by decide) (by decide), o5 90 (by decide) (by decide) (by decide)]
  · rw [q8, rw1_n _ _ (by decide), q7, rw1_s, o6 90 (by decide) (by decide) (by decide) (by decide)]
end MSEARCH
