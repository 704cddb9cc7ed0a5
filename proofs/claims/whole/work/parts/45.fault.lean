/-! fault(), on both sides -/
def faultF (f p x : Int32) : Int32 := if x = 0 then f else if x = 1 then p else -1
section FAULT
variable {g : GE} {Z : Zs} {I : Nat → Nat → Int32} {L : Nat → Nat → Int64}
theorem op_fault (hS : Sh Z) (x : Int32) : Cl g 1 mu_X11_fault [rf g 0, .int x] (Z, I, L) (some (.int (faultF (I 0 10) (I 0 11) x))) (Z, I, L) := by
  refine cp_X11_fault (hS.k 0 11 (by decide) (by decide)) ⟨fun e => ⟨fun e2 => ⟨?_, rfl⟩, fun e2 => ⟨?_, rfl⟩⟩, fun e => ⟨?_, rfl⟩⟩
  · unfold faultF; rw [if_neg e, if_neg e2]
  · unfold faultF; rw [if_neg e, if_pos e2]
  · unfold faultF; rw [if_pos e]
theorem mo_fault (hS : Sh Z) (x : Int32) : Cl g 1 mu_X12_fault [rf g 76, .int x] (Z, I, L) (some (.int (faultF (I 76 7) (I 76 8) x))) (Z, I, L) := by
  refine cp_X12_fault (hS.k 76 12 (by decide) (by decide)) ⟨fun e => ⟨fun e2 => ⟨?_, rfl⟩, fun e2 => ⟨?_, rfl⟩⟩, fun e => ⟨?_, rfl⟩⟩
  · unfold faultF; rw [if_neg e, if_neg e2]
  · unfold faultF; rw [if_neg e, if_pos e2]
  · unfold faultF; rw [if_pos e]
end FAULT
