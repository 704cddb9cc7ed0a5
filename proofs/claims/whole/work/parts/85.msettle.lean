/-! the model's chase: layer by layer -/
def tIx (k c p : Nat) : Nat := 10000 * k + 100 * c + p
def anR (b : Nat → Bool) : Nat → Nat → Bool
  | 0, _ => false
  | d + 1, tap => b tap || anR b d (tap + 1)
def alR (b : Nat → Bool) : Nat → Nat → Bool
  | 0, _ => true
  | d + 1, tap => b tap && alR b d (tap + 1)
theorem anR_iff {b : Nat → Bool} : ∀ (d tap : Nat), anR b d tap = true ↔ ∃ o, tap ≤ o ∧ o < tap + d ∧ b o = true := by
  intro d
  induction d with
  | zero => intro tap; exact ⟨fun z => (by cases z), fun ⟨o, h1, h2, _⟩ => by omega⟩
  | succ d ih =>
    intro tap
    show (b tap || anR b d (tap + 1)) = true ↔ _
    rw [Bool.or_eq_true, ih (tap + 1)]
    constructor
    · rintro (z | ⟨o, h1, h2, h3⟩)
      · exact ⟨tap, by omega, by omega, z⟩
      · exact ⟨o, by omega, by omega, h3⟩
    · rintro ⟨o, h1, h2, h3⟩
      by_cases he : o = tap
      · rw [he] at h3; exact Or.inl h3
      · exact Or.inr ⟨o, by omega, by omega, h3⟩
theorem alR_iff {b : Nat → Bool} : ∀ (d tap : Nat), alR b d tap = true ↔ ∀ o, tap ≤ o → o < tap + d → b o = true := by
  intro d
  induction d with
  | zero => intro tap; exact ⟨fun _ o h1 h2 => by omega, fun _ => rfl⟩
  | succ d ih =>
    intro tap
    show (b tap && alR b d (tap + 1)) = true ↔ _
    rw [Bool.and_eq_true, ih (tap + 1)]
    constructor
    · rintro ⟨z, h⟩ o h1 h2
      by_cases he : o = tap
      · rw [he]; exact z
      · exact h o (by omega) (by omega)
    · intro h
      exact ⟨h tap (by omega) (by omega), fun o h1 h2 => h o (by omega) (by omega)⟩
/-- the model's turns: layer u is done, of the next one those in D -/
def TVz (P : Nat → Prop) (f e : Nat → Nat → Nat) (I : Nat → Nat → Int32) (u : Nat) (D : TR → Prop) : Prop := ∀ k c p, k < 2 → P c → P p → (∃ v, v ≤ u ∧ isV f e (k, c, p) v ∧ I 98 (tIx k c p) = nI v) ∨ (¬ wnF f e u k c p ∧ D (k, c, p) ∧ wnF f e (u + 1) k c p ∧ I 98 (tIx k c p) = nI (u + 1)) ∨ (¬ wnF f e u k c p ∧ ¬ (D (k, c, p) ∧ wnF f e (u + 1) k c p) ∧ I 98 (tIx k c p) = -1)
theorem TVz.cg {P : Nat → Prop} {f e : Nat → Nat → Nat} {I : Nat → Nat → Int32} {u : Nat} {D D' : TR → Prop} (h : TVz P f e I u D) (hd : ∀ k c p, k < 2 → P c → P p → (D (k, c, p) ↔ D' (k, c, p))) : TVz P f e I u D' := fun k c p h1 h2 h3 => by
  have := h k c p h1 h2 h3
  rw [hd k c p h1 h2 h3] at this
  exact this
/-- within the layers that are done -/
theorem TVz.rd {P : Nat → Prop} {f e : Nat → Nat → Nat} {I : Nat → Nat → Int32} {u : Nat} {D : TR → Prop} (h : TVz P f e I u D) (hu : u < 2 ^ 30) {k c p : Nat} (h1 : k < 2) (h2 : P c) (h3 : P p) : (¬ I 98 (tIx k c p) < 0 ∧ ¬ nI (u + 1) ≤ I 98 (tIx k c p)) ↔ wnF f e u k c p := by
  rcases h k c p h1 h2 h3 with ⟨v, a1, a2, a3⟩ | ⟨a1, a2, a3, a4⟩ | ⟨a1, a2, a3⟩
  · rw [a3]
    exact ⟨fun _ => wn_up a2.1 u a1, fun _ => ⟨nI_pos (by omega), nI_ge (by omega) (by omega)⟩⟩
  · rw [a4]
    exact ⟨fun z => absurd (Int32.le_refl _) z.2, fun z => absurd z a1⟩
  · rw [a3]
    exact ⟨fun z => absurd (by decide) z.1, fun z => absurd z a1⟩
def DNz (c0 p0 k0 : Nat) (s : TR) : Prop := s.2.1 < c0 ∨ (s.2.1 = c0 ∧ (s.2.2 < p0 ∨ (s.2.2 = p0 ∧ s.1 < k0)))
def CNz (I : Nat → Nat → Int32) : Nat := sm 20000 (fun i => if I 98 i < 0 then 1 else 0)
theorem CN_set {I J : Nat → Nat → Int32} {i u : Nat} (hi : i < 20000) (hu : u < 2 ^ 31) (hn : I 98 i < 0) (hJ : J 98 = upd (I 98) i (nI u)) : CNz J + 1 = CNz I := by
  unfold CNz
  rw [← sm_add (n := 20000) (A := fun j => if J 98 j < 0 then 1 else 0) (s := i) (x := 1) hi]
  refine sm_same (fun j _ => ?_)
  unfold addF
  by_cases he : j = i
  · rw [he, rw1_s]
    show (if J 98 i < 0 then 1 else 0) + 1 = _
    rw [hJ, upd_s, if_neg (nI_pos hu), if_pos hn]
  · rw [rw1_n _ _ he]
    show (if J 98 j < 0 then 1 else 0) = _
    rw [hJ, upd_n _ _ he]
theorem CN_le (I : Nat → Nat → Int32) : CNz I ≤ 20000 := sm_le1 (fun i => by split <;> omega) _
section MSETTLE
variable {g : GE} {Z : Zs} {I : Nat → Nat → Int32} {L : Nat → Nat → Int64} {w h : Nat} {S : Nat → List Nat} {tx : List TX}
theorem ms_stateAt {k c p : Nat} : Cl g 1 mu_X12_stateAt [.int (nI k), .int (nI c), .int (nI p)] (Z, I, L) (some (.int (nI (tIx k c p)))) (Z, I, L) := by
  refine cp_X12_stateAt ⟨?_, rfl⟩
  rw [show (10000 : Int32) * nI k = nI (10000 * k) from pk_mul 10000 k, show (100 : Int32) * nI c = nI (100 * c) from pk_mul 100 c, nI_add, nI_add]
  rfl
theorem tIx_lt {k c p : Nat} (hk : k < 2) (hc : c < 100) (hp : p < 100) : tIx k c p < 20000 := by unfold tIx; omega
theorem tIx_inj {k c p k' c' p' : Nat} (hc : c < 100) (hp : p < 100) (hc' : c' < 100) (hp' : p' < 100) (e : tIx k c p = tIx k' c' p') : k = k' ∧ c = c' ∧ p = p' := by unfold tIx at e; omega
/-- the state behind a TAP -/
def sucT (f e : Nat → Nat → Nat) (k c p tap : Nat) : TR := if k = 0 then (1, f c tap, p) else (0, c, e p tap)
theorem ms_behind (m : MM Z I w h S tx) (hW : WF w h S tx) {a b k c p tap : Nat} (ha : a < tx.length) (hb : b < tx.length) (hVa : LV I w h S (ttF tx [a] 0) a (16 * (w * h))) (hVb : LV I w h S (ttF tx [b] 0) b (16 * (w * h))) (hk : k < 2) (hc : isP w h S c) (hp : isP w h S p) (ht : tap < 4) : Cl g 3 mu_X12_turnsBehind [rf g 76, .int (nI k), .int (nI (if k = 0 then a else b)), .int (nI c), .int (nI p), .int (nI tap)] (Z, I, L) (some (.int (I 98 (tIx (sucT (mvF w h S tx a) (mvF w h S tx b) k c p tap).1 (sucT (mvF w h S tx a) (mvF w h S tx b) k c p tap).2.1 (sucT (mvF w h S tx a) (mvF w h S tx b) k c p tap).2.2)))) (Z, I, L) := by
  have hS := m.1
  have hm := m.2.1.mul
  have hca : isP w h S (mvF w h S tx a c tap) := mv_P m.2.1 hW a c tap hc
  have hpb : isP w h S (mvF w h S tx b p tap) := mv_P m.2.1 hW b p tap hp
  have c1 := hc.1
  have p1 := hp.1
  have ca1 := hca.1
  have pb1 := hpb.1
  have wp := fun (R : Option Value) (M' : Mem) (x1 x2 x3 x4 x5 : Int32) => @cp_X12_turnsBehind g Z I L R M' 76 x1 x2 x3 x4 x5 98 (hS.k 76 12 (by decide) (by decide)) (hS.r 76 42 98 (by decide)) (hS.k 98 13 (by decide) (by decide))
  by_cases hk0 : k = 0
  · have e1 : sucT (mvF w h S tx a) (mvF w h S tx b) k c p tap = (1, mvF w h S tx a c tap, p) := by unfold sucT; rw [if_pos hk0]
    rw [e1, if_pos hk0, hk0]
    have hl := tIx_lt (k := 1) (c := mvF w h S tx a c tap) (p := p) (by decide) (by omega) (by omega)
    refine wp _ _ _ _ _ _ _ ⟨fun e => absurd rfl e, fun _ => ⟨nI (mvF w h S tx a c tap), ms_then m (tt_one ha) hVa hc ht, nI (tIx 1 (mvF w h S tx a c tap) p), ms_stateAt (k := 1), by rw [hS.n 98 20000 (by decide)]; exact vp_in_nI hl (by decide), ?_, rfl⟩⟩
    rw [nI_clamp (by omega)]
  · have e1 : sucT (mvF w h S tx a) (mvF w h S tx b) k c p tap = (0, c, mvF w h S tx b p tap) := by unfold sucT; rw [if_neg hk0]
    rw [e1, if_neg hk0]
    have hl := tIx_lt (k := 0) (c := c) (p := mvF w h S tx b p tap) (by decide) (by omega) (by omega)
    refine wp _ _ _ _ _ _ _ ⟨fun _ => ⟨nI (mvF w h S tx b p tap), ms_then m (tt_one hb) hVb hp ht, nI (tIx 0 c (mvF w h S tx b p tap)), ms_stateAt (k := 0), by rw [hS.n 98 20000 (by decide)]; exact vp_in_nI hl (by decide), ?_, rfl⟩, fun e => absurd ((nI_eq (b := 0) (by omega) (by decide)).mp e) hk0⟩
    rw [nI_clamp (by omega)]
theorem is_62 (hS : Sh Z) {x1 x2 x3 x4 x5 : Int32} {s al is : Bool} {tap : Nat} {r : Option Value} {M' : Mem} (hc : Lp_X12_isSettled_9 g 4 76 x1 x2 x3 x4 x5 (b2i s) (b2i (al && is)) (nI (tap + 1)) (Z, I, L) r M') : Lp_X12_isSettled_62 g 4 76 x1 x2 x3 x4 x5 (b2i al) (nI tap) (b2i is) (b2i s) (Z, I, L) r M' := by
  refine wp_X12_isSettled_62 (hS.k 76 12 (by decide) (by decide)) ⟨fun e y hy => ?_, fun e => ⟨fun e2 y hy => ?_, fun e2 y hy => ?_⟩⟩
  · rw [b2i_0] at e
    subst e
    rw [hy, nI_1]; exact hc
  · rw [b2i_0] at e2
    subst e2
    rw [Bool.and_false] at hc
    rw [hy, nI_1]; exact hc
  · have e : al = true := by cases al; exact absurd rfl e; rfl
    have e2 : is = true := by cases is; exact absurd rfl e2; rfl
    subst e e2
    rw [hy, nI_1]; exact hc
theorem is_9 (hS : Sh Z) {k c p t : Nat} {x2 : Int32} (hk : k < 2) {b : Nat → Bool} {v : Nat → Int32} (hv : ∀ tap, tap < 4 → Cl g 3 mu_X12_turnsBehind [rf g 76, .int (nI k), .int x2, .int (nI c), .int (nI p), .int (nI tap)] (Z, I, L) (some (.int (v tap))) (Z, I, L)) (hb : ∀ tap, tap < 4 → ((¬ v tap < 0 ∧ ¬ nI t ≤ v tap) ↔ b tap = true)) : ∀ (d tap : Nat) (s al : Bool), tap + d = 4 → Lp_X12_isSettled_9 g 4 76 (nI k) x2 (nI c) (nI p) (nI t) (b2i s) (b2i al) (nI tap) (Z, I, L) (some (.int (b2i (if k = 0 then (s || anR b d tap) else (al && alR b d tap))))) (Z, I, L) := by
  have b01 : ∀ q : Bool, b2i q = 0 ∨ b2i q = 1 := fun q => by cases q; exact Or.inl rfl; exact Or.inr rfl
  intro d
  induction d with
  | zero =>
    intro tap s al ht
    have ht : tap = 4 := ht
    subst ht
    refine wp_X12_isSettled_9 (hS.k 76 12 (by decide) (by decide)) ⟨fun _ => ⟨fun e => ⟨b01 al, ?_, rfl⟩, fun e => ⟨b01 s, ?_, rfl⟩⟩, fun e => absurd (nI_le (Nat.le_refl 4) (by decide)) e⟩
    · rw [if_neg (fun z => e (by rw [z]; rfl))]
      show some (Value.int (b2i (al && true))) = _
      rw [Bool.and_true]
    · rw [if_pos ((nI_eq (b := 0) (by omega) (by decide)).mp e)]
      show some (Value.int (b2i (s || false))) = _
      rw [Bool.or_false]
  | succ d ih =>
    intro tap s al ht
    have g4 : ¬ (4 : Int32) ≤ nI tap := fun z => absurd ((nI_leI (a := 4) (by decide) (by omega)).mp z) (by omega)
    have nx := ih (tap + 1) (s || b tap) (al && b tap) (by omega)
    have er : (if k = 0 then (s || anR b (d + 1) tap) else (al && alR b (d + 1) tap)) = (if k = 0 then ((s || b tap) || anR b d (tap + 1)) else ((al && b tap) && alR b d (tap + 1))) := by
      show (if k = 0 then (s || (b tap || anR b d (tap + 1))) else (al && (b tap && alR b d (tap + 1)))) = _
      rw [Bool.or_assoc, Bool.and_assoc]
    rw [er]
    have i62 := is_62 (g := g) (I := I) (L := L) hS nx
    have hbt := hb tap (by omega)
    refine wp_X12_isSettled_9 (hS.k 76 12 (by decide) (by decide)) ⟨fun e => absurd e g4, fun _ => ⟨_, hv tap (by omega), fun e => ?_, fun e => ⟨fun e2 => ?_, fun e2 => ?_⟩⟩⟩
    · have hf : b tap = false := by cases hx : b tap; rfl; exact absurd e (hbt.mpr hx).1
      rw [hf, Bool.or_false] at i62
      refine ⟨fun e3 => ?_, fun e3 => ?_⟩
      · have : s = true := by cases s; exact absurd rfl e3; rfl
        subst this
        rw [hf, Bool.or_false]; exact i62
      · rw [b2i_0] at e3
        subst e3
        rw [hf, Bool.or_false]; exact i62
    · have hf : b tap = false := by cases hx : b tap; rfl; exact absurd e2 (hbt.mpr hx).2
      rw [hf, Bool.or_false] at i62
      refine ⟨fun e3 => ?_, fun e3 => ?_⟩
      · have : s = true := by cases s; exact absurd rfl e3; rfl
        subst this
        rw [hf, Bool.or_false]; exact i62
      · rw [b2i_0] at e3
        subst e3
        rw [hf, Bool.or_false]; exact i62
    · have hf : b tap = true := hbt.mp ⟨e, e2⟩
      rw [hf, Bool.or_true] at i62
      rw [hf, Bool.or_true]
      exact ⟨fun _ => i62, fun _ => i62⟩
/-- isSettled: does the layer's next one settle it -/
theorem ms_isSettled (m : MM Z I w h S tx) (hW : WF w h S tx) {a b k c p u : Nat} (ha : a < tx.length) (hb : b < tx.length) (hVa : LV I w h S (ttF tx [a] 0) a (16 * (w * h))) (hVb : LV I w h S (ttF tx [b] 0) b (16 * (w * h))) (hu : u < 2 ^ 30) {D : TR → Prop} (hT : TVz (isP w h S) (mvF w h S tx a) (mvF w h S tx b) I u D) (hk : k < 2) (hc : isP w h S c) (hp : isP w h S p) (hnw : ¬ wnF (mvF w h S tx a) (mvF w h S tx b) u k c p) : ∃ q : Bool, Cl g 4 mu_X12_isSettled [rf g 76, .int (nI k), .int (nI (if k = 0 then a else b)), .int (nI c), .int (nI p), .int (nI (u + 1))] (Z, I, L) (some (.int (b2i q))) (Z, I, L) ∧ (q = true ↔ wnF (mvF w h S tx a) (mvF w h S tx b) (u + 1) k c p) := by
  obtain ⟨bq, hbq⟩ : ∃ bq : Nat → Bool, ∀ tap, bq tap = true ↔ wnF (mvF w h S tx a) (mvF w h S tx b) u (sucT (mvF w h S tx a) (mvF w h S tx b) k c p tap).1 (sucT (mvF w h S tx a) (mvF w h S tx b) k c p tap).2.1 (sucT (mvF w h S tx a) (mvF w h S tx b) k c p tap).2.2 := ⟨fun tap => @decide _ (Classical.propDecidable _), fun tap => @decide_eq_true_iff _ (Classical.propDecidable _)⟩
  have sk : ∀ tap, (sucT (mvF w h S tx a) (mvF w h S tx b) k c p tap).1 < 2 ∧ isP w h S (sucT (mvF w h S tx a) (mvF w h S tx b) k c p tap).2.1 ∧ isP w h S (sucT (mvF w h S tx a) (mvF w h S tx b) k c p tap).2.2 := fun tap => by
    unfold sucT
    by_cases h0 : k = 0
    · rw [if_pos h0]; exact ⟨Nat.one_lt_two, mv_P m.2.1 hW a c tap hc, hp⟩
    · rw [if_neg h0]; exact ⟨Nat.zero_lt_two, hc, mv_P m.2.1 hW b p tap hp⟩
  have run := is_9 (g := g) (L := L) (k := k) (c := c) (p := p) (t := u + 1) (x2 := nI (if k = 0 then a else b)) m.1 hk (b := bq) (fun tap ht => ms_behind m hW ha hb hVa hVb hk hc hp ht) (fun tap _ => by rw [hbq]; exact hT.rd hu (sk tap).1 (sk tap).2.1 (sk tap).2.2) 4 0 false true (Nat.zero_add _)
  refine ⟨_, cp_X12_isSettled (m.1.k 76 12 (by decide) (by decide)) run, ?_⟩
  by_cases h0 : k = 0
  · subst h0
    rw [if_pos rfl, Bool.false_or, anR_iff]
    constructor
    · rintro ⟨o, -, h2, h3⟩
      exact Or.inr (Or.inl ⟨rfl, o, by omega, (hbq o).mp h3⟩)
    · rintro (z | ⟨-, o, h2, h3⟩ | ⟨z, -⟩)
      · exact absurd z hnw
      · exact ⟨o, by omega, by omega, (hbq o).mpr h3⟩
      · exact absurd rfl z
  · rw [if_neg h0, Bool.true_and, alR_iff]
    have e1 : ∀ tap, sucT (mvF w h S tx a) (mvF w h S tx b) k c p tap = (0, c, mvF w h S tx b p tap) := fun tap => by unfold sucT; rw [if_neg h0]
    constructor
    · intro hz
      refine Or.inr (Or.inr ⟨h0, fun tap ht => ?_⟩)
      have := (hbq tap).mp (hz tap (by omega) (by omega))
      rw [e1 tap] at this
      exact this
    · rintro (z | ⟨z, -⟩ | ⟨-, h2⟩)
      · exact absurd z hnw
      · exact absurd z h0
      · intro o _ ho
        refine (hbq o).mpr ?_
        rw [e1 o]
        exact h2 o (by omega)
end MSETTLE
