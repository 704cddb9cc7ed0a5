/-! the class's chase: settling -/
def ixT (N : Nat) (s : TR) : Nat := s.1 * (N * N) + (s.2.1 * N + s.2.2)
def okT (N : Nat) (s : TR) : Prop := s.1 < 2 ∧ s.2.1 < N ∧ s.2.2 < N
theorem ix_lt1 {N c p : Nat} (hc : c < N) (hp : p < N) : c * N + p < N * N := by
  have : (c + 1) * N ≤ N * N := Nat.mul_le_mul_right N hc
  rw [Nat.add_mul, Nat.one_mul] at this
  omega
theorem ix_lt {N : Nat} {s : TR} (h : okT N s) : ixT N s < 2 * (N * N) := by
  have := ix_lt1 h.2.1 h.2.2
  unfold ixT
  have cs : s.1 = 0 ∨ s.1 = 1 := by have := h.1; omega
  rcases cs with e | e
  · rw [e, Nat.zero_mul]; omega
  · rw [e, Nat.one_mul]; omega
theorem ix_inj {N : Nat} {s u : TR} (h : okT N s) (k : okT N u) (he : ixT N s = ixT N u) : s = u := by
  obtain ⟨a, c, p⟩ := s
  obtain ⟨a', c', p'⟩ := u
  obtain ⟨h1, h2, h3⟩ := h
  obtain ⟨k1, k2, k3⟩ := k
  have h1 : a < 2 := h1
  have k1 : a' < 2 := k1
  have h2 : c < N := h2
  have h3 : p < N := h3
  have k2 : c' < N := k2
  have k3 : p' < N := k3
  have l1 := ix_lt1 h2 h3
  have l2 := ix_lt1 k2 k3
  have he : a * (N * N) + (c * N + p) = a' * (N * N) + (c' * N + p') := he
  have ea : a = a' ∧ c * N + p = c' * N + p' := by
    have c1 : a = 0 ∨ a = 1 := by omega
    have c2 : a' = 0 ∨ a' = 1 := by omega
    rcases c1 with rfl | rfl <;> rcases c2 with rfl | rfl <;> simp only [Nat.zero_mul, Nat.one_mul] at he <;> omega
  have ec : c = c' := by
    have e1 : (c * N + p) / N = c := by rw [Nat.mul_comm, Nat.mul_add_div (by omega), Nat.div_eq_of_lt h3, Nat.add_zero]
    have e2 : (c' * N + p') / N = c' := by rw [Nat.mul_comm, Nat.mul_add_div (by omega), Nat.div_eq_of_lt k3, Nat.add_zero]
    rw [← e1, ← e2, ea.2]
  subst ec
  rw [ea.1, show p = p' by omega]
/-- the memory of the standings: settled ones with their turns, others with what is counted -/
def QMz (I : Nat → Nat → Int32) (pa N : Nat) (Q : List TR) (V K : TR → Nat) (x : Option TR) : Prop := I pa 6 = nI Q.length ∧ (∀ j, j < Q.length → I (pa + 2) j = nI (ixT N (Q.getD j (0, 0, 0)))) ∧ (∀ s, okT N s → x ≠ some s → (s ∈ Q → I (pa + 1) (ixT N s) = nI (V s)) ∧ (s ∉ Q → K s ≤ 3 ∧ I (pa + 1) (ixT N s) = nI (K s) - 4)) ∧ (∀ s ∈ Q, okT N s) ∧ sm (2 * (N * N)) (fun i => if i ∈ Q.map (ixT N) then 1 else 0) = Q.length
theorem sm_le1 {f : Nat → Nat} (hf : ∀ i, f i ≤ 1) : ∀ n, sm n f ≤ n := by
  intro n
  induction n with
  | zero => exact Nat.le_refl _
  | succ n ih =>
    show sm n f + f n ≤ n + 1
    have := hf n
    omega
theorem QMz.len {I : Nat → Nat → Int32} {pa N : Nat} {Q : List TR} {V K : TR → Nat} {x : Option TR} (q : QMz I pa N Q V K x) : Q.length ≤ 2 * (N * N) := by
  rw [← q.2.2.2.2]
  exact sm_le1 (fun i => by split <;> omega) _
theorem ix_mem {N : Nat} {Q : List TR} {s : TR} (hQ : ∀ u ∈ Q, okT N u) (hs : okT N s) : ixT N s ∈ Q.map (ixT N) ↔ s ∈ Q := by
  rw [List.mem_map]
  refine ⟨fun ⟨u, h1, h2⟩ => ?_, fun h => ⟨s, h, rfl⟩⟩
  rw [← ix_inj (hQ u h1) hs h2]; exact h1
theorem sm_put {N : Nat} {Q : List TR} {s : TR} (hQ : ∀ u ∈ Q, okT N u) (hs : okT N s) (hn : s ∉ Q) (h : sm (2 * (N * N)) (fun i => if i ∈ Q.map (ixT N) then 1 else 0) = Q.length) : sm (2 * (N * N)) (fun i => if i ∈ (Q ++ [s]).map (ixT N) then 1 else 0) = Q.length + 1 := by
  have e := sm_add (n := 2 * (N * N)) (A := fun i => if i ∈ Q.map (ixT N) then 1 else 0) (s := ixT N s) (x := 1) (ix_lt hs)
  rw [h] at e
  refine Eq.trans (sm_same (fun j _ => ?_)) e
  unfold addF
  by_cases he : j = ixT N s
  · rw [he, rw1_s, if_pos (by rw [List.map_append]; exact List.mem_append_right _ (List.mem_singleton.mpr rfl))]
    show 1 = (if ixT N s ∈ Q.map (ixT N) then 1 else 0) + 1
    rw [if_neg (fun z => hn ((ix_mem hQ hs).mp z))]
  · rw [rw1_n _ _ he]
    have : j ∈ (Q ++ [s]).map (ixT N) ↔ j ∈ Q.map (ixT N) := by
      rw [List.map_append, List.mem_append]
      exact ⟨fun z => z.elim id (fun z => absurd (List.mem_singleton.mp z) he), Or.inl⟩
    by_cases hj : j ∈ Q.map (ixT N)
    · rw [if_pos hj, if_pos (this.mpr hj)]
    · rw [if_neg hj, if_neg (fun z => hj (this.mp z))]
theorem QMz.room {I : Nat → Nat → Int32} {pa N : Nat} {Q : List TR} {V K : TR → Nat} {x : Option TR} (q : QMz I pa N Q V K x) {s : TR} (hs : okT N s) (hn : s ∉ Q) : Q.length < 2 * (N * N) := by
  have := sm_put q.2.2.2.1 hs hn q.2.2.2.2
  have h2 := sm_le1 (f := fun i => if i ∈ (Q ++ [s]).map (ixT N) then 1 else 0) (fun i => by split <;> omega) (2 * (N * N))
  omega
section SETTLE
variable {g : GE} {Z : Zs} {I : Nat → Nat → Int32} {L : Nat → Nat → Int64} {pa N : Nat} {Q : List TR} {V K : TR → Nat}
theorem sp_settle (hE : PEz Z pa N) (hN : N ≤ 100) {s : TR} (hs : okT N s) (hn : s ∉ Q) {v : Nat} {x : Option TR} (hx : x = none ∨ x = some s) (q : QMz I pa N Q V K x) {V1 : TR → Nat} (hV : ∀ u, V1 u = if u = s then v else V u) : ∃ I1, Cl g 1 mu_X0_settle [rf g pa, .int (nI (ixT N s)), .int (nI v)] (Z, I, L) none (Z, I1, L) ∧ QMz I1 pa N (Q ++ [s]) V1 K none ∧ (∀ a, a ≠ pa → a ≠ pa + 1 → a ≠ pa + 2 → I1 a = I a) ∧ ∀ k, k ≠ 6 → I1 pa k = I pa k := by
  obtain ⟨e0, e1, e2, e3, ⟨a1, a2, a3⟩, ⟨b1, b2, b3⟩, rest⟩ := id hE
  have hNN : N * N ≤ 100 * 100 := Nat.mul_le_mul hN hN
  have hil := ix_lt hs
  have hr := q.room hs hn
  obtain ⟨q1, q2, q3, q4, q5⟩ := id q
  obtain ⟨J1, j1⟩ : ∃ J, J = rw1 I (pa + 1) (upd (I (pa + 1)) (ixT N s) (nI v)) := ⟨_, rfl⟩
  obtain ⟨J2, j2⟩ : ∃ J, J = rw1 J1 (pa + 2) (upd (J1 (pa + 2)) Q.length (nI (ixT N s))) := ⟨_, rfl⟩
  obtain ⟨J3, j3⟩ : ∃ J, J = rw1 J2 pa (upd (J2 pa) 6 (nI (Q.length + 1))) := ⟨_, rfl⟩
  have f1 : J1 pa = I pa := by rw [j1, rw1_n _ _ (by omega)]
  have f2 : J2 pa = I pa := by rw [j2, rw1_n _ _ (by omega), f1]
  have g1 : J3 (pa + 1) = upd (I (pa + 1)) (ixT N s) (nI v) := by rw [j3, rw1_n _ _ (by omega), j2, rw1_n _ _ (by omega), j1, rw1_s]
  have g2 : J3 (pa + 2) = upd (I (pa + 2)) Q.length (nI (ixT N s)) := by rw [j3, rw1_n _ _ (by omega), j2, rw1_s, j1, rw1_n _ _ (by omega)]
  have g0 : J3 pa = upd (I pa) 6 (nI (Q.length + 1)) := by rw [j3, rw1_s, f2]
  have len : (Q ++ [s]).length = Q.length + 1 := by rw [List.length_append, List.length_singleton]
  refine ⟨J3, cp_X0_settle e1 a1 a2 b1 b2 ⟨by rw [a3]; exact vp_in_nI hil (by omega), fun I2 h2 => ?_⟩, ⟨by rw [g0, upd_s, len], fun j hj => ?_, fun u hu _ => ⟨fun hm => ?_, fun hm => ?_⟩, fun u hu => ?_, by rw [len]; exact sm_put q4 hs hn q5⟩, fun a h1 h2 h3 => by rw [j3, rw1_n _ _ h1, j2, rw1_n _ _ h3, j1, rw1_n _ _ h2], fun k hk => by rw [g0, upd_n _ _ hk]⟩
  · rw [nI_clamp (by omega), ← j1] at h2
    rw [h2, f1, q1, b3]
    refine ⟨fun z => absurd z (nI_ge hr (by omega)), fun _ => ⟨vp_in_nI hr (by omega), fun I4 h4 I5 h5 => ⟨rfl, ?_⟩⟩⟩
    rw [nI_clamp (by omega), ← j2] at h4
    rw [h4, f2, q1, nI_1, ← f2, ← j3] at h5
    rw [h5]
  · rw [len] at hj
    rw [g2, getD_app]
    by_cases he : j = Q.length
    · rw [he, upd_s, if_neg (Nat.lt_irrefl _), if_pos rfl]
    · rw [upd_n _ _ he, if_pos (by omega)]; exact q2 j (by omega)
  · rw [g1, hV]
    by_cases he : u = s
    · rw [he, upd_s, if_pos rfl]
    · rw [upd_n _ _ (fun z => he (ix_inj hu hs z)), if_neg he]
      rcases List.mem_append.mp hm with hm | hm
      · exact (q3 u hu (by rcases hx with hx | hx; rw [hx]; exact fun z => (by cases z); rw [hx]; exact fun z => he (Option.some.inj z).symm)).1 hm
      · exact absurd (List.mem_singleton.mp hm) he
  · have he : u ≠ s := fun z => hm (List.mem_append_right _ (List.mem_singleton.mpr z))
    rw [g1, upd_n _ _ (fun z => he (ix_inj hu hs z))]
    exact (q3 u hu (by rcases hx with hx | hx; rw [hx]; exact fun z => (by cases z); rw [hx]; exact fun z => he (Option.some.inj z).symm)).2 (fun z => hm (List.mem_append_left _ z))
  · rcases List.mem_append.mp hu with hu | hu
    · exact q4 u hu
    · rw [List.mem_singleton.mp hu]; exact hs
/-- one more is counted -/
theorem QMz.count {s : TR} (hs : okT N s) (hn : s ∉ Q) (q : QMz I pa N Q V K none) {I1 : Nat → Nat → Int32} (hI : I1 = rw1 I (pa + 1) (upd (I (pa + 1)) (ixT N s) (nI (K s + 1) - 4))) {K1 : TR → Nat} (hK : ∀ u, K1 u = if u = s then K s + 1 else K u) : QMz I1 pa N Q V K1 (if K s = 3 then some s else none) ∧ ∀ a, a ≠ pa + 1 → I1 a = I a := by
  obtain ⟨q1, q2, q3, q4, q5⟩ := q
  have o : ∀ a, a ≠ pa + 1 → I1 a = I a := fun a ha => by rw [hI, rw1_n _ _ ha]
  have g1 : I1 (pa + 1) = upd (I (pa + 1)) (ixT N s) (nI (K s + 1) - 4) := by rw [hI, rw1_s]
  refine ⟨⟨by rw [o pa (by omega)]; exact q1, by rw [o (pa + 2) (by omega)]; exact q2, fun u hu hx => ⟨fun hm => ?_, fun hm => ?_⟩, q4, q5⟩, o⟩
  · have he : u ≠ s := fun z => hn (by rw [← z]; exact hm)
    rw [g1, upd_n _ _ (fun z => he (ix_inj hu hs z))]
    exact (q3 u hu (fun z => by cases z)).1 hm
  · by_cases he : u = s
    · subst he
      have h3 := ((q3 u hu (fun z => by cases z)).2 hm).1
      have : K u ≠ 3 := fun z => by rw [if_pos z] at hx; exact hx rfl
      rw [g1, upd_s, hK, if_pos rfl]
      exact ⟨by omega, rfl⟩
    · rw [g1, upd_n _ _ (fun z => he (ix_inj hu hs z)), hK, if_neg he]
      exact (q3 u hu (fun z => by cases z)).2 hm
theorem sg_mem {tg : Nat → Option Nat} {p q : Nat} : ∀ {e : Nat}, q ∈ sgF tg e p → ∃ i, i < e ∧ i / 4 = q ∧ tg i = some p := by
  intro e
  induction e with
  | zero => intro h; cases h
  | succ e ih =>
    intro h
    rw [sg_S] at h
    by_cases h1 : tg e = some p
    · rw [if_pos h1] at h
      rcases List.mem_cons.mp h with h | h
      · exact ⟨e, by omega, h.symm, h1⟩
      · obtain ⟨i, a, b, c⟩ := ih h
        exact ⟨i, by omega, b, c⟩
    · rw [if_neg h1] at h
      obtain ⟨i, a, b, c⟩ := ih h
      exact ⟨i, by omega, b, c⟩
theorem sg_in {tg : Nat → Option Nat} {p i : Nat} (hi : tg i = some p) : ∀ {e : Nat}, i < e → i / 4 ∈ sgF tg e p := by
  intro e
  induction e with
  | zero => intro h; omega
  | succ e ih =>
    intro h
    rw [sg_S]
    by_cases he : i = e
    · subst he
      rw [if_pos hi]; exact List.mem_cons_self
    · split
      · exact List.mem_cons_of_mem _ (ih (by omega))
      · exact ih (by omega)
theorem c4_le (b : Nat → Bool) : c4F b ≤ 4 := by
  unfold c4F
  repeat' split
  all_goals omega
theorem c4_all {b : Nat → Bool} (h : c4F b = 4) : ∀ tap, tap < 4 → b tap = true := by
  unfold c4F at h
  intro tap ht
  have cs : tap = 0 ∨ tap = 1 ∨ tap = 2 ∨ tap = 3 := by omega
  cases h0 : b 0 <;> cases h1 : b 1 <;> cases h2 : b 2 <;> cases h3 : b 3 <;> simp [h0, h1, h2, h3] at h
  rcases cs with rfl | rfl | rfl | rfl <;> assumption
theorem c4_some {b : Nat → Bool} (h : c4F b ≤ 3) : ∃ tap, tap < 4 ∧ b tap = false := Classical.byContradiction (fun z => by
  have al : ∀ tap, tap < 4 → b tap = true := fun tap ht => by
    cases hb : b tap with
    | true => rfl
    | false => exact absurd ⟨tap, ht, hb⟩ z
  have : c4F b = 4 := by unfold c4F; rw [al 0 (by decide), al 1 (by decide), al 2 (by decide), al 3 (by decide)]; rfl
  omega)
theorem c4_same {b d : Nat → Bool} (h : ∀ tap, tap < 4 → b tap = d tap) : c4F b = c4F d := by unfold c4F; rw [h 0 (by decide), h 1 (by decide), h 2 (by decide), h 3 (by decide)]
theorem c4_add {b d x : Nat → Bool} (h : ∀ tap, tap < 4 → (b tap = (d tap || x tap)) ∧ ¬ (d tap = true ∧ x tap = true)) : c4F b = c4F d + c4F x := by
  unfold c4F
  have z0 := h 0 (by decide)
  have z1 := h 1 (by decide)
  have z2 := h 2 (by decide)
  have z3 := h 3 (by decide)
  have one : ∀ tap, (b tap = (d tap || x tap)) ∧ ¬ (d tap = true ∧ x tap = true) → (if b tap then 1 else 0) = (if d tap then 1 else 0) + (if x tap then 1 else 0) := fun tap hz => by
    rw [hz.1]
    cases hd : d tap <;> cases hx : x tap
    · rfl
    · rfl
    · rfl
    · exact absurd ⟨hd, hx⟩ hz.2
  rw [one 0 z0, one 1 z1, one 2 z2, one 3 z3]
  omega
end SETTLE
