/-! names for numbers and memories; calls with the answer in its place -/
section R2
variable {g : GE} {d : Nat} {μ : MD} {pc n tgt : Nat} {lv lv' : List (Nat × Value)} {st st' stk st2 : List Value} {M M1 M' : Mem} {r : Option Value}
theorem fr_topi {x : Int32} (k : ∀ y : Int32, y = x → Fr g d μ pc lv (.int y :: st) M r M') : Fr g d μ pc lv (.int x :: st) M r M' := k x rfl
theorem fr_topl {x : Int64} (k : ∀ y : Int64, y = x → Fr g d μ pc lv (.long y :: st) M r M') : Fr g d μ pc lv (.long x :: st) M r M' := k x rfl
theorem fr_memI {Z : Zs} {I : Nat → Nat → Int32} {L : Nat → Nat → Int64} {a : Nat} {f : Nat → Int32} (k : ∀ I1 : Nat → Nat → Int32, I1 = rw1 I a f → Fr g d μ pc lv st (Z, I1, L) r M') : Fr g d μ pc lv st (sI (Z, I, L) a f) r M' := k _ rfl
theorem fr_memL {Z : Zs} {I : Nat → Nat → Int32} {L : Nat → Nat → Int64} {a : Nat} {f : Nat → Int64} (k : ∀ L1 : Nat → Nat → Int64, L1 = rw1 L a f → Fr g d μ pc lv st (Z, I, L1) r M') : Fr g d μ pc lv st (sL (Z, I, L) a f) r M' := k _ rfl
theorem fr_mem (k : ∀ M1 : Mem, M1 = M → Fr g d μ pc lv st M1 r M') : Fr g d μ pc lv st M r M' := k _ rfl
theorem fr_callV2 {ν : MD} {idx ci dc k a : Nat} {q : vw_C} {As : List Value} {v : Option Value} (hd : decode μ.2.1 pc = .ok (.invokevirtual idx, 3)) (hn : pc + 3 = n) (hw : Cond.methodLink μ.1.cls idx ν.1 ∈ TB) (hO : MO ν k) (hO2 : Cond.instanceMethod ν.1 ∈ TB ∧ Cond.selects ν.1.cls ν.1 ν.1 ∈ TB) (hq : vwCl[ci]? = some q) (hqc : q.1 = ν.1.cls) (ha : KM M.1 a ci) (hdc : dc + 1 ≤ d) (hs : stk = As.reverse ++ rf g a :: st) (hlen : As.length = k) (hcat : (st.map fun v => v.category).sum ≤ 8) (hCl : Cl g dc ν (rf g a :: As) M v M1) (h2 : v.toList ++ st = st2) (kk : Fr g d μ n lv st2 M1 r M') : Fr g d μ pc lv stk M r M' := by
  subst h2
  exact fr_callV hd hn hw hO hO2 hq hqc ha hdc hs hlen hcat hCl kk
theorem fr_callS2 {ν : MD} {idx dc k : Nat} {As : List Value} {v : Option Value} (hd : decode μ.2.1 pc = .ok (.invokestatic idx, 3)) (hn : pc + 3 = n) (hw : Cond.methodLink μ.1.cls idx ν.1 ∈ TB) (hO : MO ν k) (hO2 : Cond.static ν.1 ∈ TB) (hdc : dc + 1 ≤ d) (hs : stk = As.reverse ++ st) (hlen : As.length = k) (hcat : (st.map fun v => v.category).sum ≤ 8) (hCl : Cl g dc ν As M v M1) (h2 : v.toList ++ st = st2) (kk : Fr g d μ n lv st2 M1 r M') : Fr g d μ pc lv stk M r M' := by
  subst h2
  exact fr_callS hd hn hw hO hO2 hdc hs hlen hcat hCl kk
theorem fr_callSN2 {ν : MD} {idx dc k : Nat} {As : List Value} {v : Option Value} (hd : decode μ.2.1 pc = .ok (.invokestatic idx, 3)) (hn : pc + 3 = n) (hw : (μ.1.cls, idx, ν.1) ∈ nestL) (hO : MO ν k) (hO2 : Cond.static ν.1 ∈ TB) (hdc : dc + 1 ≤ d) (hs : stk = As.reverse ++ st) (hlen : As.length = k) (hcat : (st.map fun v => v.category).sum ≤ 8) (hCl : Cl g dc ν As M v M1) (h2 : v.toList ++ st = st2) (kk : Fr g d μ n lv st2 M1 r M') : Fr g d μ pc lv stk M r M' := by
  subst h2
  exact fr_callSN hd hn hw hO hO2 hdc hs hlen hcat hCl kk
theorem sw_cases {x lo hi : Int32} {k : Nat} (h : hi.toInt = lo.toInt + k) (hk : k < 2 ^ 31) : (x < lo ∨ hi < x) ∨ ∃ kk : Nat, kk ≤ k ∧ x = lo + nI kk := by
  by_cases h1 : x < lo
  · exact Or.inl (Or.inl h1)
  by_cases h2 : hi < x
  · exact Or.inl (Or.inr h2)
  refine Or.inr ⟨(x.toInt - lo.toInt).toNat, ?_, ?_⟩
  · have a1 : lo.toInt ≤ x.toInt := Int32.le_iff_toInt_le.mp (Int32.not_lt.mp h1)
    have a2 : x.toInt ≤ hi.toInt := Int32.le_iff_toInt_le.mp (Int32.not_lt.mp h2)
    omega
  · have a1 : lo.toInt ≤ x.toInt := Int32.le_iff_toInt_le.mp (Int32.not_lt.mp h1)
    have a2 : x.toInt ≤ hi.toInt := Int32.le_iff_toInt_le.mp (Int32.not_lt.mp h2)
    apply Int32.toInt_inj.mp
    rw [Int32.toInt_add, nI_toInt (by omega)]
    have b1 := Int32.toInt_lt x
    have b2 := Int32.le_toInt x
    rw [show (lo.toInt + ((x.toInt - lo.toInt).toNat : Int)) = x.toInt by omega]
    exact (Int.bmod_eq_of_le (by omega) (by omega)).symm
end R2
