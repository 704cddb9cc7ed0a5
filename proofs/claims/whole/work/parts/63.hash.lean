/-! the class's search: its object, its table of slots -/
/-- the search at sa, its rows behind it -/
def SE (Z : Zs) (sa : Nat) : Prop := 99 ≤ sa ∧ KM Z sa 7 ∧ Z.2.1 sa 0 = some 66 ∧ (Z.2.1 sa 1 = some (sa + 1) ∧ KM Z (sa + 1) 2 ∧ Z.2.1 (sa + 1) 0 = some (sa + 2) ∧ KM Z (sa + 2) 13 ∧ Z.2.2.1 (sa + 2) = 3) ∧ (Z.2.1 sa 2 = some (sa + 3) ∧ KM Z (sa + 3) 13 ∧ Z.2.2.1 (sa + 3) = 3001) ∧ (Z.2.1 sa 3 = some (sa + 4) ∧ KM Z (sa + 4) 13 ∧ Z.2.2.1 (sa + 4) = 3001) ∧ (Z.2.1 sa 4 = some (sa + 5) ∧ KM Z (sa + 5) 13 ∧ Z.2.2.1 (sa + 5) = 3001) ∧ (Z.2.1 sa 5 = some (sa + 6) ∧ KM Z (sa + 6) 13 ∧ Z.2.2.1 (sa + 6) = 8192)
/-- where a code's slots begin -/
def hC (c : Nat) : Nat := ((nI c * (-1640531535)).toUInt32 >>> 19).toNat
theorem hC_lt (c : Nat) : hC c < 8192 := by
  unfold hC
  rw [UInt32.toNat_shiftRight]
  have h1 : (nI c * (-1640531535)).toUInt32.toNat < 4294967296 := (nI c * (-1640531535)).toUInt32.toNat_lt
  have h2 : (19 : UInt32).toNat % 32 = 19 := by decide
  rw [h2, Nat.shiftRight_eq_div_pow]
  omega
theorem hC_eq (c : Nat) : ((nI c * (-1640531535)).toUInt32 >>> ((19 : Int32).toUInt32 &&& Int32.toUInt32 31)).toInt32 = nI (hC c) := by
  rw [show (19 : Int32).toUInt32 &&& Int32.toUInt32 31 = 19 by decide]
  show _ = Int32.ofNat (hC c)
  unfold hC
  generalize (nI c * (-1640531535)).toUInt32 >>> 19 = u
  apply Int32.toBitVec_inj.mp
  rw [Int32.toBitVec_ofNat']
  show u.toBitVec = BitVec.ofNat 32 u.toBitVec.toNat
  rw [BitVec.ofNat_toNat, BitVec.setWidth_eq]
theorem sm_ones : ∀ n, sm n (fun _ => 1) = n := by
  intro n
  induction n with
  | zero => rfl
  | succ n ih => show sm n (fun _ => 1) + 1 = n + 1; rw [ih]
/-- the table t holds the codes C -/
def HT (t : Nat → Int32) (C : List Nat) : Prop := (∀ q, q < 8192 → t q = 0 ∨ ∃ k, k < C.length ∧ t q = nI (k + 1)) ∧ (∀ k, k < C.length → ∃ d, d < 8192 ∧ t ((hC (C.getD k 0) + d) % 8192) = nI (k + 1) ∧ ∀ e, e < d → ¬ t ((hC (C.getD k 0) + e) % 8192) = 0) ∧ sm 8192 (fun q => if t q = 0 then 0 else 1) = C.length
/-- where a new code goes -/
def FS (t : Nat → Int32) (c q : Nat) : Prop := t q = 0 ∧ ∃ d, d < 8192 ∧ q = (hC c + d) % 8192 ∧ ∀ e, e < d → ¬ t ((hC c + e) % 8192) = 0
theorem HT.free {t : Nat → Int32} {C : List Nat} (h : HT t C) (hl : C.length < 8192) : ∃ q, q < 8192 ∧ t q = 0 := Classical.byContradiction (fun hn => by
  have e : sm 8192 (fun q => if t q = 0 then 0 else 1) = 8192 := by
    rw [sm_same (B := fun _ => 1) (fun i hi => if_neg (fun z => hn ⟨i, hi, z⟩)), sm_ones]
  rw [h.2.2] at e
  omega)
theorem HT.put {t : Nat → Int32} {C : List Nat} {c q : Nat} (h : HT t C) (hl : C.length < 8192) (hf : FS t c q) : HT (upd t q (nI (C.length + 1))) (C ++ [c]) := by
  obtain ⟨h1, h2, h3⟩ := h
  obtain ⟨f1, d, f2, f3, f4⟩ := hf
  have hq : q < 8192 := by rw [f3]; exact Nat.mod_lt _ (by decide)
  have u : ∀ j, upd t q (nI (C.length + 1)) j = if j = q then nI (C.length + 1) else t j := fun _ => rfl
  have nz : ∀ j, ¬ t j = 0 → ¬ upd t q (nI (C.length + 1)) j = 0 := fun j hj => by
    rw [u]
    by_cases he : j = q
    · rw [if_pos he]; exact nI_ne0 (by omega) (by omega)
    · rw [if_neg he]; exact hj
  have len : (C ++ [c]).length = C.length + 1 := by rw [List.length_append, List.length_singleton]
  refine ⟨fun j hj => ?_, fun k hk => ?_, ?_⟩
  · rw [u, len]
    by_cases he : j = q
    · rw [if_pos he]; exact Or.inr ⟨C.length, by omega, rfl⟩
    · rw [if_neg he]
      rcases h1 j hj with z | ⟨k, z1, z2⟩
      · exact Or.inl z
      · exact Or.inr ⟨k, by omega, z2⟩
  · rw [len] at hk
    by_cases hkl : k < C.length
    · have eg : (C ++ [c]).getD k 0 = C.getD k 0 := by rw [List.getD_eq_getElem?_getD, List.getElem?_append_left hkl, List.getD_eq_getElem?_getD]
      rw [eg]
      obtain ⟨d', a1, a2, a3⟩ := h2 k hkl
      refine ⟨d', a1, ?_, fun e he => nz _ (a3 e he)⟩
      rw [u, if_neg (fun z => ?_)]
      · exact a2
      · rw [z, f1] at a2
        exact nI_ne0 (n := k + 1) (by omega) (by omega) a2.symm
    · have ek : k = C.length := by omega
      subst ek
      have eg : (C ++ [c]).getD C.length 0 = c := by rw [List.getD_eq_getElem?_getD, List.getElem?_append_right (Nat.le_refl _), Nat.sub_self]; rfl
      rw [eg]
      exact ⟨d, f2, by rw [← f3, u, if_pos rfl], fun e he => nz _ (f4 e he)⟩
  · have e := sm_add (n := 8192) (A := fun q => if t q = 0 then 0 else 1) (s := q) (x := 1) hq
    rw [h3] at e
    refine Eq.trans (sm_same (fun j _ => ?_)) (e.trans len.symm)
    unfold addF
    by_cases he : j = q
    · rw [he, rw1_s, u, if_pos rfl, if_neg (nI_ne0 (by omega) (by omega))]
      show 1 = (if t q = 0 then 0 else 1) + 1
      rw [if_pos f1]
    · rw [rw1_n _ _ he, u, if_neg he]
theorem HT.empty {t : Nat → Int32} (h : ∀ q, q < 8192 → t q = 0) : HT t [] := ⟨fun q hq => Or.inl (h q hq), fun k hk => absurd hk (by simp), by
  rw [sm_same (B := fun _ => 0) (fun i hi => if_pos (h i hi)), sm_zero]; rfl⟩
section HASH
variable {g : GE} {Z : Zs} {I : Nat → Nat → Int32} {L : Nat → Nat → Int64} {sa : Nat} {C : List Nat}
theorem so_run (hE : SE Z sa) (hT : HT (I (sa + 6)) C) (hR : ∀ k, k < C.length → I (sa + 3) k = nI (C.getD k 0)) (hl : C.length ≤ 3001) (hc : ∀ k, k < C.length → C.getD k 0 < 2 ^ 31) {c : Nat} (hcl : c < 2 ^ 31) : ∀ (m k : Nat), k + m = 8192 → (∀ e, e < k → ∃ j, j < C.length ∧ I (sa + 6) ((hC c + e) % 8192) = nI (j + 1) ∧ C.getD j 0 ≠ c) →
    ∃ q, q < 8192 ∧ Lp_X7_slotOf_10 g 1 sa (nI c) (nI ((hC c + k) % 8192)) (nI k) (Z, I, L) (some (.int (nI q))) (Z, I, L) ∧ ((FS (I (sa + 6)) c q ∧ c ∉ C) ∨ (¬ I (sa + 6) q = 0 ∧ c ∈ C)) := by
  obtain ⟨e0, e1, e2, e3, ⟨r1, r2, r3⟩, e5, e6, ⟨s1, s2, s3⟩⟩ := hE
  intro m
  induction m with
  | zero =>
    intro k hk hp
    exfalso
    obtain ⟨q, hq, hz⟩ := hT.free (by omega)
    have hh := hC_lt c
    obtain ⟨j, hj, hj1, -⟩ := hp ((q + 8192 - hC c) % 8192) (by have := Nat.mod_lt (q + 8192 - hC c) (show 8192 > 0 by decide); omega)
    rw [show (hC c + (q + 8192 - hC c) % 8192) % 8192 = q by omega, hz] at hj1
    exact nI_ne0 (n := j + 1) (by omega) (by omega) hj1.symm
  | succ m ih =>
    intro k hk hp
    obtain ⟨q, hq⟩ : ∃ q, q = (hC c + k) % 8192 := ⟨_, rfl⟩
    rw [← hq]
    have hql : q < 8192 := by rw [hq]; exact Nat.mod_lt _ (by decide)
    have ge : ¬ (8192 : Int32) ≤ nI k := fun e => absurd ((nI_leI (a := 8192) (by decide) (by omega)).mp e) (by omega)
    have vq : vp_in (nI q) (Z.2.2.1 (sa + 6)) := by rw [s3]; exact vp_in_nI hql (by decide)
    have cq : (nI q).toNatClampNeg = q := nI_clamp (by omega)
    rcases hT.1 q hql with hz | ⟨j, hj, hj1⟩
    · refine ⟨q, hql, wp_X7_slotOf_10 e1 s1 s2 r1 r2 ⟨fun e => absurd e ge, fun _ => ⟨vq, fun _ => ⟨rfl, rfl⟩, fun e => absurd (by rw [cq]; exact hz) e⟩⟩, Or.inl ⟨⟨hz, k, by omega, hq, fun e he => ?_⟩, fun hmem => ?_⟩⟩
      · obtain ⟨j, hj, hj1, -⟩ := hp e he
        rw [hj1]; exact nI_ne0 (by omega) (by omega)
      · obtain ⟨i, hi, hi2⟩ := List.mem_iff_getElem.mp hmem
        have ei : C.getD i 0 = c := by rw [List.getD_eq_getElem?_getD, List.getElem?_eq_getElem hi, hi2]; rfl
        obtain ⟨d, d1, d2, d3⟩ := hT.2.1 i hi
        rw [ei] at d2 d3
        rcases Nat.lt_trichotomy d k with hdk | hdk | hdk
        · obtain ⟨j, hj, hj1, hj2⟩ := hp d hdk
          rw [d2] at hj1
          have := (nI_eq (by omega) (by omega)).mp hj1
          have : i = j := by omega
          rw [← this] at hj2
          exact hj2 ei
        · rw [hdk, ← hq, hz] at d2
          exact nI_ne0 (n := i + 1) (by omega) (by omega) d2.symm
        · have := d3 k hdk
          rw [← hq] at this
          exact this hz
    · have hnz : ¬ I (sa + 6) q = 0 := by rw [hj1]; exact nI_ne0 (by omega) (by omega)
      have ej : I (sa + 6) (nI q).toNatClampNeg - 1 = nI j := by rw [cq, hj1, nI_pred]
      have er : I (sa + 3) (nI j).toNatClampNeg = nI (C.getD j 0) := by rw [nI_clamp (by omega)]; exact hR j hj
      have vj : vp_in (nI j) (Z.2.2.1 (sa + 3)) := by rw [r3]; exact vp_in_nI (by omega) (by decide)
      by_cases he : C.getD j 0 = c
      · refine ⟨q, hql, wp_X7_slotOf_10 e1 s1 s2 r1 r2 ⟨fun e => absurd e ge, fun _ => ⟨vq, fun e => absurd (by rw [cq] at e; exact e) hnz, fun _ => ⟨vq, ?_⟩⟩⟩, Or.inr ⟨hnz, ?_⟩⟩
        · rw [ej, er, he]
          exact ⟨vj, fun _ => ⟨rfl, rfl⟩, fun e => absurd rfl e⟩
        · rw [← he, List.getD_eq_getElem?_getD, List.getElem?_eq_getElem hj]
          exact List.getElem_mem hj
      · obtain ⟨q', a1, a2, a3⟩ := ih (k + 1) (by omega) (fun e he' => by
          by_cases hek : e = k
          · rw [hek, ← hq]; exact ⟨j, hj, hj1, he⟩
          · exact hp e (by omega))
        have e8 : (nI q + 1) - (nI q + 1) / 8192 * 8192 = nI ((hC c + (k + 1)) % 8192) := by
          rw [nI_1, show nI (q + 1) - nI (q + 1) / 8192 * 8192 = nI ((q + 1) % 8192) from pk_rem (d := 8192) (by omega) (by decide) (by decide)]
          congr 1
          omega
        refine ⟨q', a1, wp_X7_slotOf_10 e1 s1 s2 r1 r2 ⟨fun e => absurd e ge, fun _ => ⟨vq, fun e => absurd (by rw [cq] at e; exact e) hnz, fun _ => ⟨vq, ?_⟩⟩⟩, a3⟩
        rw [ej, er]
        refine ⟨vj, fun e => absurd ((nI_eq (hc j hj) hcl).mp e) he, fun _ y hy y2 hy2 => ?_⟩
        rw [hy, hy2, e8, nI_1]
        exact a2
theorem sp_slotOf (hE : SE Z sa) (hT : HT (I (sa + 6)) C) (hR : ∀ k, k < C.length → I (sa + 3) k = nI (C.getD k 0)) (hl : C.length ≤ 3001) (hc : ∀ k, k < C.length → C.getD k 0 < 2 ^ 31) {c : Nat} (hcl : c < 2 ^ 31) : ∃ q, q < 8192 ∧ Cl g 1 mu_X7_slotOf [rf g sa, .int (nI c)] (Z, I, L) (some (.int (nI q))) (Z, I, L) ∧ ((FS (I (sa + 6)) c q ∧ c ∉ C) ∨ (¬ I (sa + 6) q = 0 ∧ c ∈ C)) := by
  obtain ⟨q, a1, a2, a3⟩ := so_run (g := g) (L := L) hE hT hR hl hc hcl 8192 0 (Nat.zero_add _) (fun e he => absurd he (by omega))
  rw [Nat.add_zero, Nat.mod_eq_of_lt (hC_lt c)] at a2
  refine ⟨q, a1, cp_X7_slotOf hE.2.1 (fun y hy => ?_), a3⟩
  rw [hy, hC_eq]
  exact a2
end HASH
