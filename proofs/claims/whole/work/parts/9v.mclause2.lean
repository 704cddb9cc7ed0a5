/-! the model's clause(), whole -/
def McR (g : GE) (Z : Zs) (L : Nat → Nat → Int64) (k : Nat) (tp : List Nat) (ts : List (Nat × Nat × Nat)) (i : Nat) (I : Nat → Nat → Int32) (res : CRs) : Prop := match res with
  | .inl q => ¬ q.1 = 0 → ∃ I1 L1, Cl g 7 mu_X12_clause [rf g 76] (Z, I, L) (some (.int (nI q.1))) (Z, I1, L1) ∧ 1 ≤ q.1 ∧ q.1 ≤ 5 ∧ I1 76 10 = nI (pT ts q.2) ∧ HFz k I I1 ∧ MT I1 tp
  | .inr q => ∃ I1 L1 cs cl, Cl g 7 mu_X12_clause [rf g 76] (Z, I, L) (some (.int 0)) (Z, I1, L1) ∧ TSt I1 L1 k tp ts q.2 cs cl q.1 ∧ HFz k I I1
section MCLA
variable {g : GE} {Z : Zs} {tp : List Nat} {ts : List (Nat × Nat × Nat)} {k : Nat}
/-- behind parsed(): the end is noted, then ; -/
theorem cx_ok (hS : Sh Z) (h8 : T8 tp) (hT : TSz ts) {J : Nat → Nat → Int32} {L : Nat → Nat → Int64} {cs es : List (Nat × Nat)} {cl : List (Nat × Nat × Nat)} {t : TE} {s j X st : Nat} {F : EF} (hM : MT J tp) (hk : MTk J L tp ts j) (hc : CDz J k (cs ++ es)) (h20 : J 76 20 = 0) (hb : (cs ++ es).length ≤ j) (hj : j < ts.length) (hX : X = 620 * k + 1 + 3 * cl.length) (hn : cl.length ≤ 2) (h0 : J 79 (620 * k) = nI cl.length) (s3 : s < 3) (hcl : ∀ (j : Nat) q, cl[j]? = some q → q.1 < 3 ∧ J 79 (620 * k + 1 + 3 * j) = nI q.1 ∧ J 79 (620 * k + 1 + 3 * j + 1) = nI q.2.1 ∧ J 79 (620 * k + 1 + 3 * j + 2) = nI q.2.2) (hs : J 79 X = nI s) (hst : J 79 (X + 1) = nI st) (hcnt : cl.length + 1 = cntE (ptE t s F)) (hmc : MCz (cl ++ [(s, st, (cs ++ es).length)]) (cs ++ es) (ptE t s F)) (h23 : J 76 23 = nI (onF (ptE t s F))) : (kT ts j = 33 → ∃ I1 L1, CxT g Z (nI X) 0 J L (some (.int 0)) (Z, I1, L1) ∧ TSt I1 L1 k tp ts (j + 1) (cs ++ es) (cl ++ [(s, st, (cs ++ es).length)]) (ptE t s F) ∧ HFz k J I1) ∧ (¬ kT ts j = 33 → ∃ I1, CxT g Z (nI X) 0 J L (some (.int 1)) (Z, I1, L) ∧ I1 76 10 = nI (pT ts j) ∧ HFz k J I1 ∧ MT I1 tp) := by
  have k4 := hc.1
  have n79 := hS.n 79 2480 (by decide)
  have e14 : J 76 14 = nI (620 * k) := hc.2.1
  have e16 : J 76 16 = nI (cs ++ es).length := hc.2.2.1
  have hkj : kT ts j < 38 := by have := hT.2.2.2.1 j; omega
  obtain ⟨J1, e1⟩ : ∃ K, K = rw1 J 79 (upd (J 79) (X + 2) (nI (cs ++ es).length)) := ⟨_, rfl⟩
  obtain ⟨J2, e2⟩ : ∃ K, K = rw1 J1 79 (upd (J1 79) (620 * k) (nI (cl.length + 1))) := ⟨_, rfl⟩
  have p1 : J1 76 = J 76 := by rw [e1, rw1_n _ _ (by decide)]
  have p2 : J2 76 = J 76 := by rw [e2, rw1_n _ _ (by decide), p1]
  have o2 : ∀ a, a ≠ 79 → J2 a = J a := fun a ha => by rw [e2, rw1_n _ _ ha, e1, rw1_n _ _ ha]
  have j10 : J1 79 (620 * k) = nI cl.length := by rw [e1, rw1_s, upd_n _ _ (by omega)]; exact h0
  have u : ∀ x, ¬ x = 620 * k → ¬ x = X + 2 → J2 79 x = J 79 x := fun x h1 h2 => by rw [e2, rw1_s, upd_n _ _ h1, e1, rw1_s, upd_n _ _ h2]
  have hf : HFz k J J2 := by rw [e2, e1]; exact (HFz.p79 k J (by omega) _).trans (HFz.p79 k _ (by omega) _)
  have mt2 : MT J2 tp := hM.sf (by rw [p2]) (o2 80 (by decide))
  have mk2 : MTk J2 L tp ts j := hk.kept (fun q _ _ => by rw [p2])
  have t59 : J2 76 11 = 59 ↔ kT ts j = 33 := tk_eq (x := 59) (c := 33) mk2.2.1 hkj (by decide) (by decide) (by decide) (by decide)
  have ey : nI X + 2 = nI (X + 2) := nI_add X 2
  have go : ∀ {r : Option Value} {M' : Mem}, (J2 76 11 = 59 → ∃ I23 L24, Cl g 3 mu_X12_nextToken [rf g 76] (Z, J2, L) none (Z, I23, L24) ∧ (r = some (.int 0) ∧ M' = (Z, I23, L24))) ∧ (¬ J2 76 11 = 59 → (r = some (.int 1) ∧ M' = (Z, J2, L))) → CxT g Z (nI X) 0 J L r M' := fun {r M'} h => by
    refine ⟨fun _ => ?_, fun z => absurd rfl z⟩
    rw [ey, n79, nI_clamp (by omega), e16]
    refine ⟨vp_in_nI (by omega) (by decide), fun I19 h19 => ?_⟩
    rw [← e1] at h19
    rw [h19, p1, e14, nI_clamp (by omega), j10, nI_1]
    refine ⟨vp_in_nI (by omega) (by decide), vp_in_nI (by omega) (by decide), fun I22 h22 => ?_⟩
    rw [← e2] at h22
    rw [h22]; exact h
  refine ⟨fun h33 => ?_, fun h33 => ⟨J2, go ⟨fun z => absurd (t59.mp z) h33, fun _ => ⟨rfl, rfl⟩⟩, mk2.1, hf, mt2⟩⟩
  obtain ⟨I1, L1, f1, f2, f3, f4⟩ := mp_next (g := g) (L := L) hS h8 mt2 mk2 (by omega)
  have cd2 : CDz J2 k (cs ++ es) := ⟨k4, by rw [p2]; exact e14, by rw [p2]; exact e16, hc.2.2.2.1, fun m q hm => by rw [u _ (by omega) (by omega), u _ (by omega) (by omega)]; exact hc.2.2.2.2 m q hm⟩
  have ll : (cl ++ [(s, st, (cs ++ es).length)]).length = cl.length + 1 := by rw [List.length_append]; rfl
  refine ⟨I1, L1, go ⟨fun _ => ⟨I1, L1, f1, rfl, rfl⟩, fun z => absurd (t59.mpr h33) z⟩, ⟨mt2.nf f2, f3, cd2.kept (f2.1 79 (by decide)) (f2.2 14 (by omega)) (f2.2 16 (by omega)), ?_, by omega, f4, ⟨?_, fun m q hm => ?_⟩, by rw [ll]; exact hcnt, hmc, ?_⟩, hf.trans f2.gf.hf⟩
  · rw [f2.2 20 (by omega), p2]; exact h20
  · rw [f2.1 79 (by decide), e2, rw1_s, upd_s, ll]
  · rw [f2.1 79 (by decide)]
    by_cases hm2 : m = cl.length
    · rw [hm2, List.getElem?_append_right (Nat.le_refl _), Nat.sub_self] at hm
      have hq := Option.some.inj hm
      rw [← hq, hm2, ← hX, u X (by omega) (by omega), u (X + 1) (by omega) (by omega)]
      refine ⟨s3, hs, hst, ?_⟩
      rw [e2, rw1_s, upd_n _ _ (by omega), e1, rw1_s, upd_s]
    · have hml := (List.getElem?_eq_some_iff.mp hm).1
      rw [ll] at hml
      rw [List.getElem?_append_left (by omega)] at hm
      rw [u _ (by omega) (by omega), u _ (by omega) (by omega), u _ (by omega) (by omega)]
      exact hcl m q hm
  · rw [f2.2 23 (by omega), p2]; exact h23
end MCLA
