/-! the law's start: the classes, the Strings, the statics -/
theorem ar_known {args : Array Value} {s : State} {ty : FieldType} (hne : ∀ C, ty ≠ .object C) (h : (Cond.arrayClass ty).before args s = true) : ∃ cA : ClassId, ArrOfT s cA ty ∧ va_RA s cA ty := by
  obtain ⟨cA, kA, comp, h1, h2, h3⟩ := Cond.arrayClass_spec h
  refine ⟨cA, fun n z => ⟨fun k h => (by cases h), kA, h2, comp, h3⟩, ?_⟩
  cases ty with
  | object C => exact absurd rfl (hne C)
  | _ => exact h1
theorem ao_known {args : Array Value} {s : State} {C : String} (h : (Cond.arrayOver (.object C)).before args s = true) : ∃ cA : ClassId, ArrOfT s cA (.object C) ∧ va_RA s cA (.object C) := by
  obtain ⟨comp, cA, kA, h1, h2, h3, h4, h5⟩ := Cond.arrayOver_spec h
  exact ⟨cA, fun n z => ⟨fun k h => (by cases h), kA, h3, comp, h4⟩, kA, comp, h3, h4, h1, h5⟩
def tmS (i : Nat) : Term := .string "OneEyeTwoLegs$Tokens" (txtL.getD i (0, "")).1
def isN : Cond → Bool
  | .not _ => true
  | _ => false
theorem ne_all : (flatC (Jvm.Cond.and given_1 narrow_1)).filter isN = (List.range 20).flatMap (fun j => (List.range j).map (fun i => Cond.not (Cond.eq (tmS i) (tmS j)))) := by decide +kernel
theorem sk_start {s : State} {b : Nat} {A : Nat → Prop} (hts : ∀ w ∈ lw_tbl, w.before #[Value.ref b] s = true) (hgv : (Jvm.Cond.and given_1 narrow_1).before #[Value.ref b] s = true) (hA : ∀ a : Nat, a < s.heap.size → ¬ A a) :
    ∃ adK adV : Nat → Nat, va_AO RX6 s ∧ (∀ q ∈ nestL, va_Nw (.methodLinkNest q.1 q.2.1 q.2.2 RX11) s) ∧ va_Nw (.castable "[I" "java/lang/Cloneable") s ∧ va_Zq "jdk/internal/util/Preconditions" "SIOOBE_FORMATTER" "Ljava/util/function/BiFunction;" A s s.heap ∧ vk_S 20 lenL bytL adK adV A s s.heap ∧ (∀ i, i < 20 → vk_R RX9 (txtL.getD i (0, "")).1 (txtL.getD i (0, "")).2 (adK i) s) ∧ va_Z "java/lang/String" "COMPACT_STRINGS" "Z" (.int 1) A s s.heap := by
  have hf := flat_of_before _ hgv
  have hne : ∀ i j : Nat, i < 20 → j < 20 → i ≠ j → (Cond.not (Cond.eq (tmS i) (tmS j))).before #[Value.ref b] s = true ∨ (Cond.not (Cond.eq (tmS j) (tmS i))).before #[Value.ref b] s = true := by
    intro i j hi hj hij
    have key : ∀ i, i < 20 → ∀ j, j < 20 → i < j → Cond.not (Cond.eq (tmS i) (tmS j)) ∈ flatC (Jvm.Cond.and given_1 narrow_1) := by
      intro i hi j hj hlt
      refine (List.mem_filter (p := isN)).mp (ne_all ▸ ?_) |>.1
      exact List.mem_flatMap.mpr ⟨j, List.mem_range.mpr hj, List.mem_map.mpr ⟨i, List.mem_range.mpr hlt, rfl⟩⟩
    rcases Nat.lt_or_gt_of_ne hij with h | h
    · exact Or.inl (hf _ (key i hi j hj h))
    · exact Or.inr (hf _ (key j hj i hi h))
  obtain ⟨adK, adV, k1, k2⟩ := vk_Sof (args := #[Value.ref b]) (s := s) (N := 20) (tm := tmS) (len := lenL) (byt := bytL) (A := A) (by decide)
    (fun i hi => hf _ ((by decide +kernel : ∀ i, i < 20 → Cond.exactly (tmS i) "java/lang/String" ∈ flatC (Jvm.Cond.and given_1 narrow_1)) i hi))
    (fun i hi => hf _ ((by decide +kernel : ∀ i, i < 20 → Cond.eq (.field (tmS i) "java/lang/String" "coder" "B") (.int 0) ∈ flatC (Jvm.Cond.and given_1 narrow_1)) i hi))
    (fun i hi => hf _ ((by decide +kernel : ∀ i, i < 20 → Cond.arrayOf (.field (tmS i) "java/lang/String" "value" "[B") .byte ∈ flatC (Jvm.Cond.and given_1 narrow_1)) i hi))
    (fun i hi => hf _ ((by decide +kernel : ∀ i, i < 20 → Cond.eq (.length (.field (tmS i) "java/lang/String" "value" "[B")) (.int (Int32.ofNat (lenL.getD i 0))) ∈ flatC (Jvm.Cond.and given_1 narrow_1)) i hi))
    (fun i hi j hj => hf _ ((by decide +kernel : ∀ i, i < 20 → ∀ j, j < lenL.getD i 0 → Cond.eq (.elem (.field (tmS i) "java/lang/String" "value" "[B") (.int (Int32.ofNat j))) (.int ((bytL.getD i []).getD j 0)) ∈ flatC (Jvm.Cond.and given_1 narrow_1)) i hi j hj))
    hne hA
  refine ⟨adK, adV, va_AO.of (hts _ (by decide +kernel)), ?_, va_Nw.of rfl (hts (.castable "[I" "java/lang/Cloneable") (by decide +kernel)), ?_, k1, ?_, ?_⟩
  · intro q hq
    have key : ∀ q ∈ nestL, Cond.methodLinkNest q.1 q.2.1 q.2.2 RX11 ∈ lw_tbl := by decide +kernel
    exact va_Nw.of rfl (hts _ (key q hq))
  · exact va_Zqof (hts _ (by decide +kernel)) (hts _ (by decide +kernel)) (hf _ (by decide +kernel)) hA
  · intro i hi
    have key : ∀ i, i < 20 → Cond.stringRef RX9 (txtL.getD i (0, "")).1 (txtL.getD i (0, "")).2 ∈ lw_tbl := by decide +kernel
    exact vk_R.of (hts _ (key i hi)) (k2 i hi)
  · exact va_Zof (hts _ (by decide +kernel)) (hts _ (by decide +kernel)) (va_eqt (hf _ (by decide +kernel))) hA
