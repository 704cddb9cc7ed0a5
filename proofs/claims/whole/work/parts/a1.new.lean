/-! constructors, as memories -/
def e9S (M : Mem) (o : Nat) : Mem := inS (inS (inS M o 0 301) o 1 301) o 2 301
def e5S (M : Mem) (o : Nat) : Mem := arS (arS (pR (e9S (nwD M 9 3) (cx M)) o 0 (cx M)) o 1 602) o 2 3
def e4S (M : Mem) (o : Nat) : Mem := arS (arS M o 0 11) o 1 64
/-- a new array of the kind t -/
def atS (M : Mem) (t o k n : Nat) : Mem := pR (nwD M t n) o k (cx M)
def e10S (M : Mem) (o a1 a2 : Nat) : Mem := pR (pR (arS (arS (atS (arS (arS M o 2 36) o 3 36) 15 o 4 36) o 5 6) o 6 6) o 0 a1) o 1 a2
def e1S (M : Mem) (o a1 a2 : Nat) : Mem := pR (pR (arS M o 2 6) o 0 a1) o 1 a2
section NEW
variable {g : GE} {M : Mem} {o : Nat}
theorem sp_in2 {n : Nat} (h0 : 0 < n) (hn : n ≤ 60000) : Cl g 2 mu_X2_init [rf g (mx M), .int (nI n)] (nwD M 2 2) none (arS (nwD M 2 2) (cx M) 0 n) := sp_inS ⟨Nat.lt_succ_self _, rw1_s _ _ _⟩ h0 hn
theorem sp_e9 (k : KM M.1 o 9) : Cl g 3 mu_X9_init [rf g o] M none (e9S M o) := by
  refine cp_X9_init k (fun M1 h1 => ⟨arS (nwD M 2 2) (cx M) 0 301, ?_, fun M8 h8 M11 h11 => ⟨arS (nwD (inS M o 0 301) 2 2) (cx (inS M o 0 301)) 0 301, ?_, fun M20 h20 M24 h24 => ⟨arS (nwD (inS (inS M o 0 301) o 1 301) 2 2) (cx (inS (inS M o 0 301) o 1 301)) 0 301, ?_, fun M35 h35 => ⟨rfl, ?_⟩⟩⟩⟩)
  · rw [h1]; exact sp_in2 (n := 301) (by decide) (by decide)
  · rw [h11, h8]; exact sp_in2 (M := inS M o 0 301) (n := 301) (by decide) (by decide)
  · rw [h24, h20, h8]; exact sp_in2 (M := inS (inS M o 0 301) o 1 301) (n := 301) (by decide) (by decide)
  · rw [h35, h20, h8]; rfl
theorem sp_e5 (k : KM M.1 o 5) : Cl g 4 mu_X5_init [rf g o] M none (e5S M o) := by
  refine cp_X5_init k (fun M1 h1 => ⟨e9S (nwD M 9 3) (cx M), ?_, fun M8 h8 M12 h12 M16 h16 M21 h21 M26 h26 => ⟨rfl, ?_⟩⟩)
  · rw [h1]; exact sp_e9 ⟨Nat.lt_succ_self _, rw1_s _ _ _⟩
  · subst h8 h12 h16 h21 h26
    rfl
theorem sp_e4 (k : KM M.1 o 4) : Cl g 2 mu_X4_init [rf g o] M none (e4S M o) := cp_X4_init k (fun M2 h2 M5 h5 M9 h9 M13 h13 => ⟨rfl, by subst h2 h5 h9 h13; rfl⟩)
theorem sp_e10 {a1 a2 : Nat} (k : KM M.1 o 10) (k1 : KM M.1 a1 8) (k2 : KM M.1 a2 4) : Cl g 2 mu_X10_init [rf g o, rf g a1, rf g a2] M none (e10S M o a1 a2) := cp_X10_init k k1 k2 (fun M2 h2 M7 h7 M13 h13 M19 h19 M26 h26 M33 h33 M41 h41 M49 h49 M58 h58 M67 h67 M76 h76 M85 h85 => ⟨rfl, by subst h2 h7 h13 h19 h26 h33 h41 h49 h58 h67 h76 h85; rfl⟩)
theorem sp_e1 {a1 a2 : Nat} (k : KM M.1 o 1) (k1 : KM M.1 a1 8) (k2 : KM M.1 a2 3) : Cl g 2 mu_X1_init [rf g o, rf g a1, rf g a2] M none (e1S M o a1 a2) := cp_X1_init k k1 k2 (fun M2 h2 M7 h7 M12 h12 M17 h17 => ⟨rfl, by subst h2 h7 h12 h17; rfl⟩)
end NEW
