/-! the class's reader: what is read behind a fault; what orders do -/
section FD
variable {g : GE} {Z : Zs} {I : Nat → Nat → Int32} {L : Nat → Nat → Int64} {ts : List (Nat × Nat × Nat)} {f j : Nat}
theorem FDz.k (h : FDz Z I ts f j) {x : Nat} (hx : x < 2 ^ 31) (hn : x ≠ 36) : ¬ I 3 5 = nI x := fun e => by
  rw [h.2.1] at e
  exact hn ((nI_eq (a := 36) (by decide) hx).mp e).symm
theorem fd_one (hS : Sh Z) (h : FDz Z I ts f j) {d : Nat} (hd : 5 ≤ d) : Cl g d mu_X5_readOne [rf g 3] (Z, I, L) none (Z, I, L) :=
  cp_X5_readOne (d := d) (dc := d - 1) (by omega) hd (hS.k 3 5 (by decide) (by decide)) ⟨fun _ => ⟨fun _ => ⟨fun e => absurd e (h.k (x := 31) (by decide) (by decide)), fun _ => ⟨fun e => absurd e (h.k (x := 28) (by decide) (by decide)), fun _ => ⟨fun e => absurd e (h.k (x := 14) (by decide) (by decide)), fun _ => ⟨I, L, fd_fail hS h, rfl, rfl⟩⟩⟩⟩, fun e => absurd e (h.k (x := 20) (by decide) (by decide))⟩, fun e => absurd e (h.k (x := 19) (by decide) (by decide))⟩
theorem fd_product (hS : Sh Z) (h : FDz Z I ts f j) {d : Nat} (hd : 6 ≤ d) : Cl g d mu_X5_readProduct [rf g 3] (Z, I, L) none (Z, I, L) :=
  cp_X5_readProduct (d := d) (dc := d - 1) (by omega) (by omega) (hS.k 3 5 (by decide) (by decide)) ⟨I, L, fd_one hS h (by omega), wp_X5_readProduct_6 (d := d) (dc := d - 1) (by omega) (by omega) (hS.k 3 5 (by decide) (by decide)) ⟨fun e => absurd e (by decide), fun _ => ⟨fun e => absurd e (h.k (x := 29) (by decide) (by decide)), fun _ => ⟨fun _ => ⟨rfl, rfl⟩, fun e => absurd e (h.k (x := 30) (by decide) (by decide))⟩⟩⟩⟩
theorem fd_sum (hS : Sh Z) (h : FDz Z I ts f j) {d : Nat} (hd : 7 ≤ d) : Cl g d mu_X5_readSum [rf g 3] (Z, I, L) none (Z, I, L) :=
  cp_X5_readSum (d := d) (dc := d - 1) (by omega) (by omega) (hS.k 3 5 (by decide) (by decide)) ⟨I, L, fd_product hS h (by omega), wp_X5_readSum_6 (d := d) (dc := d - 1) (by omega) (by omega) (hS.k 3 5 (by decide) (by decide)) ⟨fun e => absurd e (by decide), fun _ => ⟨fun e => absurd e (h.k (x := 27) (by decide) (by decide)), fun _ => ⟨fun _ => ⟨rfl, rfl⟩, fun e => absurd e (h.k (x := 28) (by decide) (by decide))⟩⟩⟩⟩
end FD
/-- a row of orders from q on: it leaves one value more, or goes on with what a left -/
def SGz (q : Nat) (seg : List Nat) (h : Nat) (acc : Option EF) (F : EF) : Prop := ∀ (pre rest : List Nat) (env : Nat → Int32) (s : List Int32), pre.length = q → s.length ≤ h → ∃ n, n ≤ seg.length ∧ Stn (pre ++ seg ++ rest) env n q (match acc with | none => s | some a => s ++ [a env]) (q + seg.length) (s ++ [F env])
theorem at_seg {pre seg rest : List Nat} {q k : Nat} (hq : pre.length = q) (hk : k < seg.length) : (pre ++ seg ++ rest)[q + k]? = seg[k]? := by
  rw [List.getElem?_append_left (by rw [List.length_append]; omega), List.getElem?_append_right (by omega), hq, Nat.add_sub_cancel_left]
theorem sg_nil (q h : Nat) (a : EF) : SGz q [] h (some a) a := fun pre rest env s _ _ => ⟨0, Nat.le_refl _, rfl, rfl⟩
theorem Stn.one {ords : List Nat} {env : Nat → Int32} {p p' : Nat} {s s' : List Int32} (h : St1 ords env p s p' s') : Stn ords env 1 p s p' s' := ⟨p', s', h, rfl, rfl⟩
theorem sg_num {q h v : Nat} (hh : h < 64) : SGz q [19, v] h none (fun _ => nI v) := fun pre rest env s hq hs => ⟨1, by show 1 ≤ 2; omega, Stn.one (Or.inl ⟨by have := at_seg (rest := rest) (seg := [19, v]) (k := 0) hq (by show 0 < 2; omega); exact this, v, at_seg (seg := [19, v]) (k := 1) hq (by show 1 < 2; omega), rfl, rfl, by show s.length < 64; omega⟩)⟩
theorem sg_name {q h v : Nat} (hh : h < 64) (hv : v < 11) : SGz q [20, v] h none (fun env => env v) := fun pre rest env s hq hs => ⟨1, by show 1 ≤ 2; omega, Stn.one (Or.inr (Or.inl ⟨by have := at_seg (rest := rest) (seg := [20, v]) (k := 0) hq (by show 0 < 2; omega); exact this, v, at_seg (seg := [20, v]) (k := 1) hq (by show 1 < 2; omega), hv, rfl, rfl, by show s.length < 64; omega⟩))⟩
theorem sg_seq {q h h2 : Nat} {A B : List Nat} {acc : Option EF} {F G : EF} (a : SGz q A h acc F) (b : SGz (q + A.length) B h2 (some F) G) (hh : h ≤ h2) : SGz q (A ++ B) h acc G := fun pre rest env s hq hs => by
  obtain ⟨n1, l1, s1⟩ := a pre (B ++ rest) env s hq hs
  obtain ⟨n2, l2, s2⟩ := b (pre ++ A) rest env s (by rw [List.length_append, hq]) (by omega)
  refine ⟨n1 + n2, by rw [List.length_append]; omega, ?_⟩
  rw [show pre ++ (A ++ B) ++ rest = pre ++ A ++ (B ++ rest) by simp only [List.append_assoc], List.length_append, ← Nat.add_assoc]
  rw [show pre ++ A ++ B ++ rest = pre ++ A ++ (B ++ rest) by simp only [List.append_assoc]] at s2
  exact s1.tr s2
theorem sg_bin {q h c : Nat} {A : List Nat} {a f : EF} (hc : isJ c) (k : SGz q A (h + 1) none f) : SGz q (A ++ [c]) h (some a) (jf c a f) := fun pre rest env s hq hs => by
  obtain ⟨n1, l1, s1⟩ := k pre ([c] ++ rest) env (s ++ [a env]) hq (by rw [List.length_append, List.length_singleton]; omega)
  refine ⟨n1 + 1, by rw [List.length_append, List.length_singleton]; omega, ?_⟩
  rw [show pre ++ (A ++ [c]) ++ rest = pre ++ A ++ ([c] ++ rest) by simp only [List.append_assoc], List.length_append, List.length_singleton, ← Nat.add_assoc]
  refine s1.tr (Stn.one (Or.inr (Or.inr (Or.inr (Or.inr (Or.inr (Or.inr ⟨c, ?_, hc, s, a env, f env, rfl, rfl, rfl⟩)))))))
  have := at_seg (pre := pre ++ A) (seg := [c]) (rest := rest) (k := 0) (by rw [List.length_append, hq]) (by show 0 < 1; omega)
  rw [List.append_assoc] at this
  exact this
theorem sg_neg {q h : Nat} {A : List Nat} {f : EF} (k : SGz q A h none f) : SGz q (A ++ [38]) h none (fun env => - f env) := fun pre rest env s hq hs => by
  obtain ⟨n1, l1, s1⟩ := k pre ([38] ++ rest) env s hq hs
  refine ⟨n1 + 1, by rw [List.length_append, List.length_singleton]; omega, ?_⟩
  rw [show pre ++ (A ++ [38]) ++ rest = pre ++ A ++ ([38] ++ rest) by simp only [List.append_assoc], List.length_append, List.length_singleton, ← Nat.add_assoc]
  refine s1.tr (Stn.one (Or.inr (Or.inr (Or.inr (Or.inr (Or.inr (Or.inl ⟨?_, s, f env, rfl, rfl, rfl⟩)))))))
  have := at_seg (pre := pre ++ A) (seg := [38]) (rest := rest) (k := 0) (by rw [List.length_append, hq]) (by show 0 < 1; omega)
  rw [List.append_assoc] at this
  exact this
theorem sg_not {q h : Nat} {A : List Nat} {f : EF} (k : SGz q A h none f) : SGz q (A ++ [18]) h none (fun env => if f env = 0 then 1 else 0) := fun pre rest env s hq hs => by
  obtain ⟨n1, l1, s1⟩ := k pre ([18] ++ rest) env s hq hs
  refine ⟨n1 + 1, by rw [List.length_append, List.length_singleton]; omega, ?_⟩
  rw [show pre ++ (A ++ [18]) ++ rest = pre ++ A ++ ([18] ++ rest) by simp only [List.append_assoc], List.length_append, List.length_singleton, ← Nat.add_assoc]
  refine s1.tr (Stn.one (Or.inr (Or.inr (Or.inr (Or.inr (Or.inl ⟨?_, s, f env, rfl, rfl, rfl⟩))))))
  have := at_seg (pre := pre ++ A) (seg := [18]) (rest := rest) (k := 0) (by rw [List.length_append, hq]) (by show 0 < 1; omega)
  rw [List.append_assoc] at this
  exact this
theorem sg_less {q h h2 : Nat} {A : List Nat} {acc : Option EF} {F : EF} (k : SGz q A h acc F) (hh : h2 ≤ h) : SGz q A h2 acc F := fun pre rest env s hq hs => k pre rest env s hq (by omega)
/-- if: the condition, a jump, what is so, a jump, what is else -/
theorem sg_if {q h : Nat} {A B C : List Nat} {c f e : EF} (ka : SGz q A h none c) (kb : SGz (q + A.length + 2) B h none f) (kc : SGz (q + A.length + 2 + B.length + 2) C h none e) (hb : q + A.length + 2 + B.length + 2 + C.length < 2 ^ 31) : SGz q (A ++ [34, q + A.length + 2 + B.length + 2] ++ B ++ [35, q + A.length + 2 + B.length + 2 + C.length] ++ C) h none (fun env => if c env = 0 then e env else f env) := fun pre rest env s hq hs => by
  obtain ⟨x, hx⟩ : ∃ x, x = q + A.length + 2 + B.length + 2 := ⟨_, rfl⟩
  obtain ⟨y, hy⟩ : ∃ y, y = x + C.length := ⟨_, rfl⟩
  rw [← hx, ← hy]
  have len : (A ++ [34, x] ++ B ++ [35, y] ++ C).length = A.length + 2 + B.length + 2 + C.length := by simp only [List.length_append, List.length_cons, List.length_nil]
  obtain ⟨n1, l1, s1⟩ := ka pre ([34, x] ++ B ++ [35, y] ++ C ++ rest) env s hq hs
  obtain ⟨n2, l2, s2⟩ := kb (pre ++ A ++ [34, x]) ([35, y] ++ C ++ rest) env s (by simp only [List.length_append, List.length_cons, List.length_nil]; omega) hs
  obtain ⟨n3, l3, s3⟩ := kc (pre ++ A ++ [34, x] ++ B ++ [35, y]) rest env s (by simp only [List.length_append, List.length_cons, List.length_nil]; omega) hs
  obtain ⟨full, hfull⟩ : ∃ full, full = pre ++ (A ++ [34, x] ++ B ++ [35, y] ++ C) ++ rest := ⟨_, rfl⟩
  rw [← hfull]
  rw [show pre ++ A ++ ([34, x] ++ B ++ [35, y] ++ C ++ rest) = full by rw [hfull]; simp only [List.append_assoc]] at s1
  rw [show pre ++ A ++ [34, x] ++ B ++ ([35, y] ++ C ++ rest) = full by rw [hfull]; simp only [List.append_assoc]] at s2
  rw [show pre ++ A ++ [34, x] ++ B ++ [35, y] ++ C ++ rest = full by rw [hfull]; simp only [List.append_assoc]] at s3
  have a34 : full[q + A.length]? = some 34 ∧ full[q + A.length + 1]? = some x := by
    have t := fun k (hk : k < 2) => at_seg (pre := pre ++ A) (seg := [34, x]) (rest := B ++ [35, y] ++ C ++ rest) (k := k) (q := q + A.length) (by rw [List.length_append, hq]) hk
    rw [show pre ++ A ++ [34, x] ++ (B ++ [35, y] ++ C ++ rest) = full by rw [hfull]; simp only [List.append_assoc]] at t
    exact ⟨t 0 (by decide), t 1 (by decide)⟩
  have a35 : full[q + A.length + 2 + B.length]? = some 35 ∧ full[q + A.length + 2 + B.length + 1]? = some y := by
    have t := fun k (hk : k < 2) => at_seg (pre := pre ++ A ++ [34, x] ++ B) (seg := [35, y]) (rest := C ++ rest) (k := k) (q := q + A.length + 2 + B.length) (by simp only [List.length_append, List.length_cons, List.length_nil]; omega) hk
    rw [show pre ++ A ++ [34, x] ++ B ++ [35, y] ++ (C ++ rest) = full by rw [hfull]; simp only [List.append_assoc]] at t
    exact ⟨t 0 (by decide), t 1 (by decide)⟩
  rw [len]
  show ∃ n, n ≤ A.length + 2 + B.length + 2 + C.length ∧ Stn full env n q s (q + (A.length + 2 + B.length + 2 + C.length)) (s ++ [if c env = 0 then e env else f env])
  by_cases h0 : c env = 0
  · rw [if_pos h0]
    refine ⟨n1 + 1 + n3, by omega, ?_⟩
    have st : Stn full env 1 (q + A.length) (s ++ [c env]) x s := Stn.one (Or.inr (Or.inr (Or.inl ⟨a34.1, x, c env, a34.2, by omega, rfl, by rw [if_pos h0]⟩)))
    rw [← hx] at s3
    rw [show q + (A.length + 2 + B.length + 2 + C.length) = x + C.length by omega]
    exact (s1.tr st).tr s3
  · rw [if_neg h0]
    refine ⟨n1 + 1 + n2 + 1, by omega, ?_⟩
    have st : Stn full env 1 (q + A.length) (s ++ [c env]) (q + A.length + 2) s := Stn.one (Or.inr (Or.inr (Or.inl ⟨a34.1, x, c env, a34.2, by omega, rfl, by rw [if_neg h0]⟩)))
    have st2 : Stn full env 1 (q + A.length + 2 + B.length) (s ++ [f env]) y (s ++ [f env]) := Stn.one (Or.inr (Or.inr (Or.inr (Or.inl ⟨a35.1, y, a35.2, by omega, rfl, rfl⟩))))
    rw [show q + (A.length + 2 + B.length + 2 + C.length) = y by omega]
    exact ((s1.tr st).tr s2).tr st2
