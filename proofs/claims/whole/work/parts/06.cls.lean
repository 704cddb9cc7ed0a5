/-! the rows of fields, arrays, making, calls and returns -/
theorem W_sz {p : Program} {l : Launch} {e : Env} {R : Room} {s : State} {m : MethodId} {args : Array Value} {below : List Frame} {meth : Method} {c : Code} {H : Heap} {locs : List Loc} {cells slots : Nat} {Q : State → Prop} {f : JFrame} (k : H.size ≤ s.heap.size + cells → W p l e R s m args below meth c H locs cells slots Q f) : W p l e R s m args below meth c H locs cells slots Q f :=
  fun T hT X => k (by rw [← hT]; exact X.same.2.2.1) T hT X
theorem Sd_low {g : GE} {M : Mem} {H : Heap} {s : State} {locs : List Loc} {x0 s0 cells slots : Nat} (h : Sd g M H s locs x0 s0 cells slots) (hs : s.heap.size = gb g + x0) : gb g + mx M ≤ H.size := by
  by_cases h0 : mx M = 0
  · rw [h0]
    have := h.2.2.2.1
    omega
  · have h1 := (h.2.2.1 (mx M - 1) _ (wsO_get (by omega))).lt
    have h2 : gb g + (mx M - 1) < H.size := h1
    omega
theorem in_TB {w : Cond} (h : w ∈ lw_tbl) (h2 : goodWord w = true) : w ∈ TB := List.mem_filter.mpr ⟨h, h2⟩
/-- the classes: their words, their fields' types and names -/
def ClsOK (ci : Nat) (q : vw_C) : Prop := (∀ w ∈ u_ws q.1 q.2.1 q.2.2, w ∈ TB) ∧ (kd ci).length = q.2.2 ∧ (∀ a, a < q.2.2 → ∀ b, b < q.2.2 → a ≠ b → (q.2.1 a).2.1 ≠ (q.2.1 b).2.1) ∧ ∃ ty : Nat → FieldType, (∀ k, k < q.2.2 → parseFieldDescriptor (q.2.1 k).2.2.1 = some (ty k)) ∧ ∀ k, k < q.2.2 → defaultValue (ty k) = (match (kd ci).getD k 0 with | 0 => Value.int 0 | 1 => Value.long 0 | _ => Value.null)

theorem uw0 : ∀ w ∈ u_ws RX0 TX0 11, w ∈ TB := by
  have h : ∀ w ∈ u_ws RX0 TX0 11, w ∈ lw_tbl ∧ goodWord w = true := by decide +kernel
  exact fun w hw => in_TB (h w hw).1 (h w hw).2
theorem ck0 : ClsOK 0 (RX0, TX0, 11) := ⟨uw0, by decide +kernel, nmX0, tyX0, tyX0_ok, by decide +kernel⟩
theorem uw1 : ∀ w ∈ u_ws RX1 TX1 4, w ∈ TB := by
  have h : ∀ w ∈ u_ws RX1 TX1 4, w ∈ lw_tbl ∧ goodWord w = true := by decide +kernel
  exact fun w hw => in_TB (h w hw).1 (h w hw).2
theorem ck1 : ClsOK 1 (RX1, TX1, 4) := ⟨uw1, by decide +kernel, nmX1, tyX1, tyX1_ok, by decide +kernel⟩
theorem uw2 : ∀ w ∈ u_ws RX2 TX2 2, w ∈ TB := by
  have h : ∀ w ∈ u_ws RX2 TX2 2, w ∈ lw_tbl ∧ goodWord w = true := by decide +kernel
  exact fun w hw => in_TB (h w hw).1 (h w hw).2
theorem ck2 : ClsOK 2 (RX2, TX2, 2) := ⟨uw2, by decide +kernel, nmX2, tyX2, tyX2_ok, by decide +kernel⟩
theorem uw3 : ∀ w ∈ u_ws RX3 TX3 3, w ∈ TB := by
  have h : ∀ w ∈ u_ws RX3 TX3 3, w ∈ lw_tbl ∧ goodWord w = true := by decide +kernel
  exact fun w hw => in_TB (h w hw).1 (h w hw).2
theorem ck3 : ClsOK 3 (RX3, TX3, 3) := ⟨uw3, by decide +kernel, nmX3, tyX3, tyX3_ok, by decide +kernel⟩
theorem uw4 : ∀ w ∈ u_ws RX4 TX4 3, w ∈ TB := by
  have h : ∀ w ∈ u_ws RX4 TX4 3, w ∈ lw_tbl ∧ goodWord w = true := by decide +kernel
  exact fun w hw => in_TB (h w hw).1 (h w hw).2
theorem ck4 : ClsOK 4 (RX4, TX4, 3) := ⟨uw4, by decide +kernel, nmX4, tyX4, tyX4_ok, by decide +kernel⟩
theorem uw5 : ∀ w ∈ u_ws RX5 TX5 10, w ∈ TB := by
  have h : ∀ w ∈ u_ws RX5 TX5 10, w ∈ lw_tbl ∧ goodWord w = true := by decide +kernel
  exact fun w hw => in_TB (h w hw).1 (h w hw).2
theorem ck5 : ClsOK 5 (RX5, TX5, 10) := ⟨uw5, by decide +kernel, nmX5, tyX5, tyX5_ok, by decide +kernel⟩
theorem uw6 : ∀ w ∈ u_ws RX6 TX6 4, w ∈ TB := by
  have h : ∀ w ∈ u_ws RX6 TX6 4, w ∈ lw_tbl ∧ goodWord w = true := by decide +kernel
  exact fun w hw => in_TB (h w hw).1 (h w hw).2
theorem ck6 : ClsOK 6 (RX6, TX6, 4) := ⟨uw6, by decide +kernel, nmX6, tyX6, tyX6_ok, by decide +kernel⟩
theorem uw7 : ∀ w ∈ u_ws RX7 TX7 8, w ∈ TB := by
  have h : ∀ w ∈ u_ws RX7 TX7 8, w ∈ lw_tbl ∧ goodWord w = true := by decide +kernel
  exact fun w hw => in_TB (h w hw).1 (h w hw).2
theorem ck7 : ClsOK 7 (RX7, TX7, 8) := ⟨uw7, by decide +kernel, nmX7, tyX7, tyX7_ok, by decide +kernel⟩
theorem uw8 : ∀ w ∈ u_ws RX8 TX8 15, w ∈ TB := by
  have h : ∀ w ∈ u_ws RX8 TX8 15, w ∈ lw_tbl ∧ goodWord w = true := by decide +kernel
  exact fun w hw => in_TB (h w hw).1 (h w hw).2
theorem ck8 : ClsOK 8 (RX8, TX8, 15) := ⟨uw8, by decide +kernel, nmX8, tyX8, tyX8_ok, by decide +kernel⟩
theorem uw9 : ∀ w ∈ u_ws RX9 TX9 3, w ∈ TB := by
  have h : ∀ w ∈ u_ws RX9 TX9 3, w ∈ lw_tbl ∧ goodWord w = true := by decide +kernel
  exact fun w hw => in_TB (h w hw).1 (h w hw).2
theorem ck9 : ClsOK 9 (RX9, TX9, 3) := ⟨uw9, by decide +kernel, nmX9, tyX9, tyX9_ok, by decide +kernel⟩
theorem uw10 : ∀ w ∈ u_ws RX10 TX10 9, w ∈ TB := by
  have h : ∀ w ∈ u_ws RX10 TX10 9, w ∈ lw_tbl ∧ goodWord w = true := by decide +kernel
  exact fun w hw => in_TB (h w hw).1 (h w hw).2
theorem ck10 : ClsOK 10 (RX10, TX10, 9) := ⟨uw10, by decide +kernel, nmX10, tyX10, tyX10_ok, by decide +kernel⟩
theorem uw11 : ∀ w ∈ u_ws RX11 TX11 14, w ∈ TB := by
  have h : ∀ w ∈ u_ws RX11 TX11 14, w ∈ lw_tbl ∧ goodWord w = true := by decide +kernel
  exact fun w hw => in_TB (h w hw).1 (h w hw).2
theorem ck11 : ClsOK 11 (RX11, TX11, 14) := ⟨uw11, by decide +kernel, nmX11, tyX11, tyX11_ok, by decide +kernel⟩
theorem uw12 : ∀ w ∈ u_ws RX12 TX12 43, w ∈ TB := by
  have h : ∀ w ∈ u_ws RX12 TX12 43, w ∈ lw_tbl ∧ goodWord w = true := by decide +kernel
  exact fun w hw => in_TB (h w hw).1 (h w hw).2
theorem ck12 : ClsOK 12 (RX12, TX12, 43) := ⟨uw12, by decide +kernel, nmX12, tyX12, tyX12_ok, by decide +kernel⟩
theorem cls_ok {ci : Nat} {q : vw_C} (h : vwCl[ci]? = some q) : ci < 13 ∧ ClsOK ci q := by
  match ci, h with
  | 0, h => cases h; exact ⟨by decide, ck0⟩
  | 1, h => cases h; exact ⟨by decide, ck1⟩
  | 2, h => cases h; exact ⟨by decide, ck2⟩
  | 3, h => cases h; exact ⟨by decide, ck3⟩
  | 4, h => cases h; exact ⟨by decide, ck4⟩
  | 5, h => cases h; exact ⟨by decide, ck5⟩
  | 6, h => cases h; exact ⟨by decide, ck6⟩
  | 7, h => cases h; exact ⟨by decide, ck7⟩
  | 8, h => cases h; exact ⟨by decide, ck8⟩
  | 9, h => cases h; exact ⟨by decide, ck9⟩
  | 10, h => cases h; exact ⟨by decide, ck10⟩
  | 11, h => cases h; exact ⟨by decide, ck11⟩
  | 12, h => cases h; exact ⟨by decide, ck12⟩
  | _ + 13, h => simp [vwCl] at h