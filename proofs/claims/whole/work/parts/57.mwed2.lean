/-! wed(): the model's askings -/
def WM (I : Nat → Nat → Int32) (s : WT) : Prop := (∀ k, k < 36 → I 96 k = b2i (s.1 k)) ∧ (∀ i, i < 6 → I 95 i = oI (s.2.1 i)) ∧ ∀ o, o < 6 → I 95 (6 + o) = oI (s.2.2 o)
section MWED2
variable {g : GE} {Z : Zs} {I : Nat → Nat → Int32} {L : Nat → Nat → Int64} {w h : Nat} {S : Nat → List Nat} {tx : List TX} {s : WT} {t : TX} {side : Nat}
theorem v95 (hS : Sh Z) {j : Nat} (hj : j < 12) : vp_in (nI j) (Z.2.2.1 95) := by rw [hS.n 95 12 (by decide)]; exact vp_in_nI hj (by decide)
theorem v96 (hS : Sh Z) {j : Nat} (hj : j < 72) : vp_in (nI j) (Z.2.2.1 96) := by rw [hS.n 96 72 (by decide)]; exact vp_in_nI hj (by decide)
theorem e6m (i o : Nat) : (6 : Int32) * nI i + nI o = nI (6 * i + o) := by rw [show (6 : Int32) * nI i = nI (6 * i) from pk_mul 6 i, nI_add]
theorem e6p (o : Nat) : (6 : Int32) + nI o = nI (6 + o) := nI_add 6 o
theorem ak_as (hs : side < 2) (o i : Nat) : asL t S (1 - side) o i = akL t S side o i := by
  unfold asL akL
  by_cases h0 : side = 0
  · subst h0; rfl
  · have h1 : side = 1 := by omega
    subst h1; rfl
theorem nA_sw (hs : side < 2) : nAsk S (1 - side) = nAkd S side ∧ nAkd S (1 - side) = nAsk S side := by
  unfold nAsk nAkd
  by_cases h0 : side = 0
  · subst h0; exact ⟨rfl, rfl⟩
  · have h1 : side = 1 := by omega
    subst h1; exact ⟨rfl, rfl⟩
theorem ms_likes (k : MM Z I w h S tx) (hF : FD L S t (S 10).length (S 9).length 0 0) (hs : side < 2) {i o : Nat} (hi : i < nAsk S side) (ho : o < nAkd S side) : Cl g 1 mu_X12_likes [rf g 76, .int (nI side), .int (nI i), .int (nI o)] (Z, I, L) (some (.long (asL t S side i o).toInt64)) (Z, I, L) := by
  have h9 : (S 9).length ≤ 6 := k.len 9 (by decide)
  have h10 : (S 10).length ≤ 6 := k.len 10 (by decide)
  refine cp_X12_likes (k.1.k 76 12 (by decide) (by decide)) (k.1.r 76 38 94 (by decide)) (k.1.k 94 14 (by decide) (by decide)) ?_
  unfold nAsk at hi
  unfold nAkd at ho
  unfold asL
  by_cases h0 : side = 0
  · rw [if_pos h0] at hi ho ⊢
    have z : nI side = 0 := by rw [h0]; rfl
    refine ⟨fun e => absurd z e, fun _ => ?_⟩
    rw [e6m, nI_clamp (by omega)]
    have := hF i o 0 (by omega) ho (by decide) (Or.inl hi)
    rw [show 36 * 0 + 6 * i + o = 6 * i + o by omega] at this
    rw [this]
    exact ⟨v94 k.1 (by omega), rfl, rfl⟩
  · rw [if_neg h0] at hi ho ⊢
    have z : ¬ nI side = 0 := nI_ne0 (by omega) (by omega)
    refine ⟨fun _ => ?_, fun e => absurd e z⟩
    rw [show (36 : Int32) + 6 * nI o + nI i = nI (36 * 1 + 6 * o + i) from e37 1 o i, nI_clamp (by omega), hF o i 1 (by omega) hi (by decide) (Or.inl ho)]
    exact ⟨v94 k.1 (by omega), rfl, rfl⟩
theorem bo_run (k : MM Z I w h S tx) (hF : FD L S t (S 10).length (S 9).length 0 0) (hM : WM I s) (hs : side < 2) {i : Nat} (hi : i < nAsk S side) : ∀ (d j : Nat) (b : Option Nat), j + d = nAkd S side → (∀ o, b = some o → o < nAkd S side) → Lp_X12_bestOf_5 g 2 76 (nI side) (nI i) (oI b) (nI j) (Z, I, L) (some (.int (oI (bsF s.1 (asL t S side) i d j b)))) (Z, I, L) := by
  obtain ⟨hMR, c0, c1, c2, c3, c4, c5, c6⟩ := k.2.2.2.2.1
  have h9 : (S 9).length ≤ 6 := k.len 9 (by decide)
  have h10 : (S 10).length ≤ 6 := k.len 10 (by decide)
  have hn1 : nAsk S side ≤ 6 := by unfold nAsk; split <;> assumption
  have hn2 : nAkd S side ≤ 6 := by unfold nAkd; split <;> assumption
  have mk := fun (u3 u4 : Int32) (r : Option Value) (M' : Mem) => @wp_X12_bestOf_5 g Z I L r M' 76 (nI side) (nI i) u3 u4 77 96 (k.1.k 76 12 (by decide) (by decide)) (k.1.r 76 0 77 (by decide)) (k.1.k 77 13 (by decide) (by decide)) (k.1.r 76 40 96 (by decide)) (k.1.k 96 13 (by decide) (by decide))
  -- which count is read
  have pick : ∀ (P : Int32 → Prop), P (nI (nAkd S side)) → (¬ nI side = 0 → vp_in 5 (Z.2.2.1 77) ∧ P (I 77 (5 : Int32).toNatClampNeg)) ∧ (nI side = 0 → vp_in 6 (Z.2.2.1 77) ∧ P (I 77 (6 : Int32).toNatClampNeg)) := fun P hP => by
    refine ⟨fun e => ⟨vin k (j := 5) (by decide), ?_⟩, fun e => ⟨vin k (j := 6) (by decide), ?_⟩⟩
    · rw [show I 77 (5 : Int32).toNatClampNeg = nI (S 9).length from c5]
      have : nAkd S side = (S 9).length := by unfold nAkd; rw [if_neg (fun z => e (by rw [z]; rfl))]
      rw [← this]; exact hP
    · rw [show I 77 (6 : Int32).toNatClampNeg = nI (S 10).length from c6]
      have : nAkd S side = (S 10).length := by unfold nAkd; rw [if_pos ((nI_eq (b := 0) (by omega) (by decide)).mp e)]
      rw [← this]; exact hP
  intro d
  induction d with
  | zero =>
    intro j b hj hb
    have hj : j = nAkd S side := hj
    subst hj
    exact mk _ _ _ _ (pick (fun n => (n ≤ nI (nAkd S side) → _) ∧ (¬ n ≤ nI (nAkd S side) → _)) ⟨fun _ => ⟨rfl, rfl⟩, fun e => absurd (nI_le (Nat.le_refl _) (by omega)) e⟩)
  | succ d ih =>
    intro j b hj hb
    have hb' : ∀ o, b = some o → o < 2 ^ 31 := fun o ho => by have := hb o ho; omega
    refine mk _ _ _ _ (pick (fun n => (n ≤ nI j → _) ∧ (¬ n ≤ nI j → _)) ⟨fun e => absurd e (nI_ge (by omega) (by omega)), fun _ => ?_⟩)
    rw [e6m, nI_clamp (by omega), hM.1 _ (by omega)]
    refine ⟨v96 k.1 (by omega), fun e y hy => ?_, fun e => ?_⟩
    · have hq : s.1 (6 * i + j) = true := by cases hx : s.1 (6 * i + j) with
        | true => rfl
        | false => rw [hx] at e; exact absurd rfl e
      rw [hy, nI_1, show bsF s.1 (asL t S side) i (d + 1) j b = bsF s.1 (asL t S side) i d (j + 1) b from by
        show bsF s.1 (asL t S side) i d (j + 1) (if s.1 (6 * i + j) then b else _) = _
        rw [if_pos hq]]
      exact ih (j + 1) b (by omega) hb
    · rw [b2i_0] at e
      rw [bs_nb e]
      cases b with
      | none => exact ⟨fun _ y hy => by rw [hy, nI_1]; exact ih (j + 1) (some j) (by omega) (fun o ho => by have := Option.some.inj ho; omega), fun e => absurd (by decide) e⟩
      | some o =>
        have ho := hb o rfl
        refine ⟨fun e => absurd e (nI_pos (by omega)), fun _ => ⟨_, ms_likes k hF hs hi (show j < nAkd S side by omega), _, ms_likes k hF hs hi ho, ?_⟩⟩
        rw [lg_cmp_le, l64_le]
        refine ⟨fun e y hy => ?_, fun e y hy => ?_⟩
        · rw [hy, nI_1, nb_le e]; exact ih (j + 1) (some o) (by omega) hb
        · rw [hy, nI_1, nb_gt e]; exact ih (j + 1) (some j) (by omega) (fun o ho => by have := Option.some.inj ho; omega)
theorem ms_bestOf (k : MM Z I w h S tx) (hF : FD L S t (S 10).length (S 9).length 0 0) (hM : WM I s) (hs : side < 2) {i : Nat} (hi : i < nAsk S side) : Cl g 2 mu_X12_bestOf [rf g 76, .int (nI side), .int (nI i)] (Z, I, L) (some (.int (oI (bsF s.1 (asL t S side) i (nAkd S side) 0 none)))) (Z, I, L) :=
  cp_X12_bestOf (k.1.k 76 12 (by decide) (by decide)) (fun y hy => by rw [hy]; exact bo_run k hF hM hs hi (nAkd S side) 0 none (Nat.zero_add _) (fun o ho => by cases ho))
/-- does he keep him -/
def kpB (B : Nat → Nat → Int32) (i o : Nat) (p : Option Nat) : Bool := match p with
  | none => true
  | some rv => !refB B i o rv
theorem ms_isMore (k : MM Z I w h S tx) (hF : FD L S t (S 10).length (S 9).length 0 0) (hs : side < 2) {i o : Nat} (hi : i < nAsk S side) (ho : o < nAkd S side) {p : Option Nat} (hp : I 95 (6 + o) = oI p) (hpl : ∀ rv, p = some rv → rv < nAsk S side ∧ rv ≠ i) : Cl g 2 mu_X12_isMore [rf g 76, .int (nI side), .int (nI o), .int (nI i)] (Z, I, L) (some (.int (b2i (kpB (akL t S side) i o p)))) (Z, I, L) := by
  have h9 : (S 9).length ≤ 6 := k.len 9 (by decide)
  have h10 : (S 10).length ≤ 6 := k.len 10 (by decide)
  have hn1 : nAsk S side ≤ 6 := by unfold nAsk; split <;> assumption
  have hn2 : nAkd S side ≤ 6 := by unfold nAkd; split <;> assumption
  obtain ⟨sw1, sw2⟩ := nA_sw (S := S) hs
  have e1s : (1 : Int32) - nI side = nI (1 - side) := pk_sub (a := 1) (by omega)
  refine cp_X12_isMore (k.1.k 76 12 (by decide) (by decide)) (k.1.r 76 39 95 (by decide)) (k.1.k 95 13 (by decide) (by decide)) ?_
  rw [e6p, nI_clamp (by omega), hp, e1s]
  refine ⟨v95 k.1 (by omega), fun y hy => ?_⟩
  rw [hy]
  cases p with
  | none => exact ⟨fun e => absurd e (by decide), fun _ => ⟨rfl, rfl⟩⟩
  | some rv =>
    obtain ⟨hrv, hne⟩ := hpl rv rfl
    have l1 := ms_likes (g := g) k hF (side := 1 - side) (by omega) (i := o) (o := i) (by rw [sw1]; exact ho) (by rw [sw2]; exact hi)
    have l2 := ms_likes (g := g) k hF (side := 1 - side) (by omega) (i := o) (o := rv) (by rw [sw1]; exact ho) (by rw [sw2]; exact hrv)
    rw [ak_as hs] at l1 l2
    refine ⟨fun _ => ⟨_, l1, _, l2, ?_⟩, fun e => absurd (nI_pos' (by omega)) e⟩
    rw [lg_cmp_gt, lg_cmp_eq, l64_lt, l64_eq]
    have ek : kpB (akL t S side) i o (some rv) = !(decide (akL t S side o i < akL t S side o rv) || (decide (akL t S side o i = akL t S side o rv) && decide (rv < i))) := rfl
    rw [ek]
    refine ⟨fun e => ⟨?_, rfl⟩, fun e => ⟨fun e0 => ⟨?_, rfl⟩, fun e0 => ⟨fun e2 => ⟨?_, rfl⟩, fun e2 => ⟨?_, rfl⟩⟩⟩⟩
    · have n1 : ¬ akL t S side o i < akL t S side o rv := fun z => Int32.lt_irrefl (Int32.lt_trans e z)
      have n2 : ¬ akL t S side o i = akL t S side o rv := fun z => by rw [z] at e; exact Int32.lt_irrefl e
      rw [decide_eq_false n1, decide_eq_false n2]; rfl
    · have : akL t S side o i < akL t S side o rv := Int32.lt_of_le_of_ne (Int32.not_lt.mp e) e0
      rw [decide_eq_true this]; rfl
    · rw [show oI (some rv) = nI rv from rfl, nI_leI (by omega) (by omega)] at e2
      have n1 : ¬ akL t S side o i < akL t S side o rv := fun z => by rw [e0] at z; exact Int32.lt_irrefl z
      rw [decide_eq_false n1, decide_eq_true e0, decide_eq_true (show rv < i by omega)]; rfl
    · rw [show oI (some rv) = nI rv from rfl, nI_leI (by omega) (by omega)] at e2
      have n1 : ¬ akL t S side o i < akL t S side o rv := fun z => by rw [e0] at z; exact Int32.lt_irrefl z
      rw [decide_eq_false n1, decide_eq_true e0, decide_eq_false (show ¬ rv < i by omega)]; rfl
theorem MB.ow (m : MB Z I w h S tx) {b : Nat} (h1 : 83 ≤ b) (f : Nat → Int32) : MB Z (rw1 I b f) w h S tx := ⟨m.1.kept (fun a ha => rw1_n _ _ (by omega)), m.2.1, fun j hj => by rw [rw1_n _ _ (show (82 : Nat) ≠ b by omega)]; exact m.2.2 j hj⟩
theorem wd_run (hs : side < 2) {rider : Nat} (hr : rider < 6) : ∀ (c : Nat) (d i : Nat) (s : WT) (I : Nat → Nat → Int32), cnt s.1 = c → i + d = nAsk S side → MB Z I w h S tx → FD L S t (S 10).length (S 9).length 0 0 → WM I s → wok (nAsk S side) (nAkd S side) s → (∀ j, j < i → idl (asL t S side) (nAkd S side) s j) →
    ∃ I1, Lp_X12_wed_108 g 5 76 (nI side) (nI rider) (nI (nAsk S side)) (nI i) (Z, I, L) (some (.int (oI (if side = 0 then (itF (asL t S side) (akL t S side) (nAsk S side) (nAkd S side) c s).2.1 rider else (itF (asL t S side) (akL t S side) (nAsk S side) (nAkd S side) c s).2.2 rider)))) (Z, I1, L) ∧ MB Z I1 w h S tx ∧ ∀ a, a ≠ 95 → a ≠ 96 → I1 a = I a := by
  intro c
  induction c with
  | zero =>
    intro d
    induction d with
    | zero => 
      intro i s I hc hi m hF hM hok hid
      obtain ⟨k, hW, hrg⟩ := id m
      have h9 : (S 9).length ≤ 6 := k.len 9 (by decide)
      have h10 : (S 10).length ≤ 6 := k.len 10 (by decide)
      have hn1 : nAsk S side ≤ 6 := by unfold nAsk; split <;> assumption
      refine ⟨I, wp_X12_wed_108 (k.1.k 76 12 (by decide) (by decide)) (k.1.r 76 39 95 (by decide)) (k.1.k 95 13 (by decide) (by decide)) (k.1.r 76 40 96 (by decide)) (k.1.k 96 13 (by decide) (by decide)) ⟨fun _ => ⟨fun e => ?_, fun e => ?_⟩, fun e => absurd (nI_le (show nAsk S side ≤ i by omega) (by omega)) e⟩, m, fun _ _ _ => rfl⟩
      · rw [e6p, nI_clamp (by omega), hM.2.2 rider hr, if_neg (fun z => e (by rw [z]; rfl))]
        exact ⟨v95 k.1 (by omega), rfl, rfl⟩
      · rw [nI_clamp (by omega), hM.2.1 rider hr, if_pos ((nI_eq (b := 0) (by omega) (by decide)).mp e)]
        exact ⟨v95 k.1 (by omega), rfl, rfl⟩
    | succ d ih =>
      intro i s I hc hi m hF hM hok hid
      obtain ⟨k, hW, hrg⟩ := id m
      have h9 : (S 9).length ≤ 6 := k.len 9 (by decide)
      have h10 : (S 10).length ≤ 6 := k.len 10 (by decide)
      have hn1 : nAsk S side ≤ 6 := by unfold nAsk; split <;> assumption
      have hn2 : nAkd S side ≤ 6 := by unfold nAkd; split <;> assumption
      have bo := ms_bestOf (g := g) k hF hM hs (i := i) (by omega)
      have kb : ∀ o, s.2.1 i = some o → o < 2 ^ 31 := fun o ho => by have := hok.1 i o ho; omega
      have eK : I 95 (nI i).toNatClampNeg = oI (s.2.1 i) := by rw [nI_clamp (by omega)]; exact hM.2.1 i (by omega)
      have hbn : bsF s.1 (asL t S side) i (nAkd S side) 0 none = none := by
        cases hb : bsF s.1 (asL t S side) i (nAkd S side) 0 none with
        | none => rfl
        | some o =>
          obtain ⟨b1, b2⟩ := bs_ok hb
          have := cnt_ans (B := akL t S side) (s := s) (show i < 6 by omega) (show o < 6 by omega) b2
          omega
      obtain ⟨I1, e1, e2⟩ := ih (i + 1) s I hc (by omega) m hF hM hok (fun j hj => by
        by_cases hji : j = i
        · rw [hji]; exact Or.inr hbn
        · exact hid j (by omega))
      rw [hbn] at bo
      refine ⟨I1, wp_X12_wed_108 (k.1.k 76 12 (by decide) (by decide)) (k.1.r 76 39 95 (by decide)) (k.1.k 95 13 (by decide) (by decide)) (k.1.r 76 40 96 (by decide)) (k.1.k 96 13 (by decide) (by decide)) ⟨fun e => absurd e (nI_ge (by omega) (by omega)), fun _ => ⟨v95 k.1 (by omega), fun _ => ⟨_, bo, fun e => absurd e (by decide), fun _ y hy => by rw [hy, nI_1]; exact e1⟩, fun _ y hy => ⟨fun e => absurd e (by rw [hy]; decide), fun _ y4 h4 => by rw [h4, nI_1]; exact e1⟩⟩⟩, e2⟩
  | succ c ihc =>
    intro d
    induction d with
    | zero => 
      intro i s I hc hi m hF hM hok hid
      obtain ⟨k, hW, hrg⟩ := id m
      have h9 : (S 9).length ≤ 6 := k.len 9 (by decide)
      have h10 : (S 10).length ≤ 6 := k.len 10 (by decide)
      have hn1 : nAsk S side ≤ 6 := by unfold nAsk; split <;> assumption
      rw [it_idle (fun j hj => hid j (by omega))]
      refine ⟨I, wp_X12_wed_108 (k.1.k 76 12 (by decide) (by decide)) (k.1.r 76 39 95 (by decide)) (k.1.k 95 13 (by decide) (by decide)) (k.1.r 76 40 96 (by decide)) (k.1.k 96 13 (by decide) (by decide)) ⟨fun _ => ⟨fun e => ?_, fun e => ?_⟩, fun e => absurd (nI_le (show nAsk S side ≤ i by omega) (by omega)) e⟩, m, fun _ _ _ => rfl⟩
      · rw [e6p, nI_clamp (by omega), hM.2.2 rider hr, if_neg (fun z => e (by rw [z]; rfl))]
        exact ⟨v95 k.1 (by omega), rfl, rfl⟩
      · rw [nI_clamp (by omega), hM.2.1 rider hr, if_pos ((nI_eq (b := 0) (by omega) (by decide)).mp e)]
        exact ⟨v95 k.1 (by omega), rfl, rfl⟩
    | succ d ih =>
      intro i s I hc hi m hF hM hok hid
      obtain ⟨k, hW, hrg⟩ := id m
      have h9 : (S 9).length ≤ 6 := k.len 9 (by decide)
      have h10 : (S 10).length ≤ 6 := k.len 10 (by decide)
      have hn1 : nAsk S side ≤ 6 := by unfold nAsk; split <;> assumption
      have hn2 : nAkd S side ≤ 6 := by unfold nAkd; split <;> assumption
      have bo := ms_bestOf (g := g) k hF hM hs (i := i) (by omega)
      have kb : ∀ o, s.2.1 i = some o → o < 2 ^ 31 := fun o ho => by have := hok.1 i o ho; omega
      have eK : I 95 (nI i).toNatClampNeg = oI (s.2.1 i) := by rw [nI_clamp (by omega)]; exact hM.2.1 i (by omega)
      have mk := fun (r : Option Value) (M' : Mem) => @wp_X12_wed_108 g Z I L r M' 76 (nI side) (nI rider) (nI (nAsk S side)) (nI i) 95 96 (k.1.k 76 12 (by decide) (by decide)) (k.1.r 76 39 95 (by decide)) (k.1.k 95 13 (by decide) (by decide)) (k.1.r 76 40 96 (by decide)) (k.1.k 96 13 (by decide) (by decide))
      have hgo : nI (nAsk S side) ≤ nI i → False := fun e => absurd e (nI_ge (by omega) (by omega))
      cases hk : s.2.1 i with
      | some o =>
        obtain ⟨I1, e1, e2⟩ := ih (i + 1) s I hc (by omega) m hF hM hok (fun j hj => by
          by_cases hji : j = i
          · rw [hji]; exact Or.inl (by rw [hk]; rfl)
          · exact hid j (by omega))
        refine ⟨I1, mk _ _ ⟨fun e => (hgo e).elim, fun _ => ⟨v95 k.1 (by omega), fun e => ?_, fun _ y hy => ⟨fun e => absurd e (by rw [hy]; decide), fun _ y4 h4 => by rw [h4, nI_1]; exact e1⟩⟩⟩, e2⟩
        rw [eK, oI_neg kb, hk] at e
        cases e
      | none =>
        have hlt : I 95 (nI i).toNatClampNeg < 0 := by rw [eK, hk]; decide
        cases hb : bsF s.1 (asL t S side) i (nAkd S side) 0 none with
        | none =>
          obtain ⟨I1, e1, e2⟩ := ih (i + 1) s I hc (by omega) m hF hM hok (fun j hj => by
            by_cases hji : j = i
            · rw [hji]; exact Or.inr hb
            · exact hid j (by omega))
          rw [hb] at bo
          exact ⟨I1, mk _ _ ⟨fun e => (hgo e).elim, fun _ => ⟨v95 k.1 (by omega), fun _ => ⟨_, bo, fun e => absurd e (by decide), fun _ y hy => by rw [hy, nI_1]; exact e1⟩, fun e => absurd hlt e⟩⟩, e2⟩
        | some o =>
          rw [hb] at bo
          obtain ⟨ho, hq⟩ := bs_ok hb
          rw [it_do (by omega) hid hk hb]
          have hcn := cnt_ans (B := akL t S side) (s := s) (show i < 6 by omega) (show o < 6 by omega) hq
          have hokA := wok_ans (B := akL t S side) (show i < nAsk S side by omega) ho hn1 hn2 hok
          obtain ⟨J, hJ⟩ : ∃ J, J = rw1 I 96 (upd (I 96) (6 * i + o) 1) := ⟨_, rfl⟩
          have mJ : MB Z J w h S tx := by rw [hJ]; exact m.ow (by decide) _
          have jQ : ∀ q, q < 36 → J 96 q = b2i (rw1 s.1 (6 * i + o) true q) := fun q hq' => by
            rw [hJ, rw1_s]
            unfold upd
            by_cases he : q = 6 * i + o
            · rw [if_pos he, he, rw1_s]; rfl
            · rw [if_neg he, rw1_n _ _ he]; exact hM.1 q hq'
          have j95 : J 95 = I 95 := by rw [hJ, rw1_n _ _ (by decide)]
          have im := ms_isMore (g := g) (L := L) mJ.1 hF hs (show i < nAsk S side by omega) ho (p := s.2.2 o) (by rw [j95]; exact hM.2.2 o (by omega)) (fun rv hrv => by
            obtain ⟨q1, q2⟩ := hok.2 o rv hrv
            exact ⟨q1, fun z => by rw [z, hq] at q2; cases q2⟩)
          have eP : J 95 (6 + o) = oI (s.2.2 o) := by rw [j95]; exact hM.2.2 o (by omega)
          have pb : ∀ rv, s.2.2 o = some rv → rv < 2 ^ 31 := fun rv hrv => by have := (hok.2 o rv hrv).1; omega
          -- he is kept: the new state
          have acc : ∀ (J2 : Nat → Nat → Int32) (K : Nat → Option Nat), ansF (akL t S side) s i o = (rw1 s.1 (6 * i + o) true, rw1 K i (some o), rw1 s.2.2 o (some i)) → (∀ a, a ≠ 95 → J2 a = J a) → (∀ q, q < 6 → J2 95 q = oI (K q)) → (∀ q, q < 6 → J2 95 (6 + q) = oI (s.2.2 q)) → MB Z J2 w h S tx →
              ∃ I1, (∀ I12 I14 : Nat → Nat → Int32, I12 = rw1 J2 95 (upd (J2 95) (6 + o) (nI i)) → I14 = rw1 I12 95 (upd (I12 95) i (nI o)) → Lp_X12_wed_108 g 5 76 (nI side) (nI rider) (nI (nAsk S side)) 0 (Z, I14, L) (some (.int (oI (if side = 0 then (itF (asL t S side) (akL t S side) (nAsk S side) (nAkd S side) c (ansF (akL t S side) s i o)).2.1 rider else (itF (asL t S side) (akL t S side) (nAsk S side) (nAkd S side) c (ansF (akL t S side) s i o)).2.2 rider)))) (Z, I1, L)) ∧ MB Z I1 w h S tx ∧ ∀ a, a ≠ 95 → a ≠ 96 → I1 a = I a := fun J2 K hA h95 hKk hPp m2 => by
            obtain ⟨J3, hJ3⟩ : ∃ J3, J3 = rw1 J2 95 (upd (J2 95) (6 + o) (nI i)) := ⟨_, rfl⟩
            obtain ⟨J4, hJ4⟩ : ∃ J4, J4 = rw1 J3 95 (upd (J3 95) i (nI o)) := ⟨_, rfl⟩
            have m4 : MB Z J4 w h S tx := by rw [hJ4, hJ3]; exact (m2.ow (by decide) _).ow (by decide) _
            have u4 : ∀ q, J4 95 q = if q = i then nI o else if q = 6 + o then nI i else J2 95 q := fun q => by rw [hJ4, rw1_s, hJ3, rw1_s]; rfl
            obtain ⟨I1, e1, e2, e3⟩ := ihc (nAsk S side) 0 (ansF (akL t S side) s i o) J4 (by omega) (Nat.zero_add _) m4 hF (by
              rw [hA]
              refine ⟨fun q hq' => ?_, fun q hq' => ?_, fun q hq' => ?_⟩
              · rw [hJ4, rw1_n _ _ (by decide), hJ3, rw1_n _ _ (by decide), h95 96 (by decide)]; exact jQ q hq'
              · rw [u4]
                show _ = oI (rw1 K i (some o) q)
                by_cases he : q = i
                · rw [if_pos he, he, rw1_s]; rfl
                · rw [if_neg he, if_neg (by omega), rw1_n _ _ he]; exact hKk q hq'
              · rw [u4]
                show _ = oI (rw1 s.2.2 o (some i) q)
                by_cases he : q = o
                · rw [if_neg (by omega), if_pos (by omega), he, rw1_s]; rfl
                · rw [if_neg (by omega), if_neg (by omega), rw1_n _ _ he]; exact hPp q hq') hokA (fun j hj => absurd hj (by omega))
            refine ⟨I1, fun I12 I14 h12 h14 => ?_, e2, fun a h1 h2 => by rw [e3 a h1 h2, hJ4, rw1_n _ _ h1, hJ3, rw1_n _ _ h1, h95 a h1, hJ, rw1_n _ _ h2]⟩
            rw [h14, h12, ← hJ3, ← hJ4]
            exact e1
          have ci : (nI i).toNatClampNeg = i := nI_clamp (by omega)
          have co : (nI (6 + o)).toNatClampNeg = 6 + o := nI_clamp (by omega)
          have head : ∀ (r : Option Value) (M' : Mem), (∃ v8 : Int32, Cl g 2 mu_X12_isMore [rf g 76, .int (nI side), .int (nI o), .int (nI i)] (Z, J, L) (some (.int v8)) (Z, J, L) ∧ ((v8 = 0 → Lp_X12_wed_108 g 5 76 (nI side) (nI rider) (nI (nAsk S side)) (nI i) (Z, J, L) r M') ∧ (¬ v8 = 0 → (vp_in (nI (6 + o)) (Z.2.2.1 95) ∧ (((J 95 (nI (6 + o)).toNatClampNeg) < 0 → (vp_in (nI (6 + o)) (Z.2.2.1 95) ∧ (∀ I12 : Nat → Nat → Int32, I12 = rw1 J 95 (upd (J 95) (nI (6 + o)).toNatClampNeg (nI i)) → (vp_in (nI i) (Z.2.2.1 95) ∧ (∀ I14 : Nat → Nat → Int32, I14 = rw1 I12 95 (upd (I12 95) (nI i).toNatClampNeg (nI o)) → Lp_X12_wed_108 g 5 76 (nI side) (nI rider) (nI (nAsk S side)) 0 (Z, I14, L) r M'))))) ∧ (¬ (J 95 (nI (6 + o)).toNatClampNeg) < 0 → (vp_in (nI (6 + o)) (Z.2.2.1 95) ∧ (vp_in (J 95 (nI (6 + o)).toNatClampNeg) (Z.2.2.1 95) ∧ (∀ I17 : Nat → Nat → Int32, I17 = rw1 J 95 (upd (J 95) (J 95 (nI (6 + o)).toNatClampNeg).toNatClampNeg (-1)) → (vp_in (nI (6 + o)) (Z.2.2.1 95) ∧ (∀ I19 : Nat → Nat → Int32, I19 = rw1 I17 95 (upd (I17 95) (nI (6 + o)).toNatClampNeg (nI i)) → (vp_in (nI i) (Z.2.2.1 95) ∧ (∀ I21 : Nat → Nat → Int32, I21 = rw1 I19 95 (upd (I19 95) (nI i).toNatClampNeg (nI o)) → Lp_X12_wed_108 g 5 76 (nI side) (nI rider) (nI (nAsk S side)) 0 (Z, I21, L) r M'))))))))))))) → Lp_X12_wed_108 g 5 76 (nI side) (nI rider) (nI (nAsk S side)) (nI i) (Z, I, L) r M' := fun r M' hh => by
            refine mk _ _ ⟨fun e => (hgo e).elim, fun _ => ⟨v95 k.1 (by omega), fun _ => ⟨_, bo, fun _ => ?_, fun e => absurd (nI_pos' (by omega)) e⟩, fun e => absurd hlt e⟩⟩
            rw [show (6 : Int32) * nI i + oI (some o) = nI (6 * i + o) from e6m i o, nI_clamp (show 6 * i + o < 2 ^ 31 by omega), show (6 : Int32) + oI (some o) = nI (6 + o) from e6p o]
            refine ⟨v96 k.1 (by omega), fun I7 h7 => ?_⟩
            rw [h7, ← hJ]
            exact hh
          rw [ci, co, eP] at head
          cases hkp : kpB (akL t S side) i o (s.2.2 o) with
          | false =>
            rw [hkp] at im
            -- refused
            cases hp : s.2.2 o with
            | none => rw [hp] at hkp; cases hkp
            | some rv =>
              have hrf : refB (akL t S side) i o rv = true := by
                rw [hp] at hkp
                replace hkp : (!refB (akL t S side) i o rv) = false := hkp
                cases hx : refB (akL t S side) i o rv with
                | true => rfl
                | false => rw [hx] at hkp; cases hkp
              have hA : ansF (akL t S side) s i o = (rw1 s.1 (6 * i + o) true, s.2.1, s.2.2) := by
                unfold ansF
                rw [hp]
                show (if refB (akL t S side) i o rv then _ else _) = _
                rw [hrf]; rfl
              obtain ⟨I1, e1, e2, e3⟩ := ihc (d + 1) i (ansF (akL t S side) s i o) J (by omega) hi mJ hF (by
                rw [hA]
                exact ⟨jQ, by rw [j95]; exact hM.2.1, by rw [j95]; exact hM.2.2⟩) hokA (fun j hj => by
                rw [hA]
                rcases hid j hj with z | z
                · exact Or.inl z
                · refine Or.inr ?_
                  show bsF (rw1 s.1 (6 * i + o) true) (asL t S side) j (nAkd S side) 0 none = none
                  rw [bs_same (Q := s.1) (n := nAkd S side) (fun q hq' => rw1_n _ _ (by omega)) (Nat.zero_add _)]
                  exact z)
              exact ⟨I1, head _ _ ⟨_, im, fun _ => e1, fun e => absurd rfl e⟩, e2, fun a h1 h2 => by rw [e3 a h1 h2, hJ, rw1_n _ _ h2]⟩
          | true =>
            rw [hkp] at im
            cases hp : s.2.2 o with
            | none =>
              have hA : ansF (akL t S side) s i o = (rw1 s.1 (6 * i + o) true, rw1 s.2.1 i (some o), rw1 s.2.2 o (some i)) := by
                unfold ansF; rw [hp]
              obtain ⟨I1, e1, e2, e3⟩ := acc J s.2.1 hA (fun _ _ => rfl) (by rw [j95]; exact hM.2.1) (by rw [j95]; exact hM.2.2) mJ
              rw [hp] at head
              exact ⟨I1, head _ _ ⟨_, im, fun e => absurd e (by decide), fun _ => ⟨v95 k.1 (by omega), fun _ => ⟨v95 k.1 (by omega), fun I12 h12 => ⟨v95 k.1 (by omega), fun I14 h14 => e1 I12 I14 h12 h14⟩⟩, fun e => absurd (by decide) e⟩⟩, e2, e3⟩
            | some rv =>
              have hrv := (hok.2 o rv hp).1
              have hrf : refB (akL t S side) i o rv = false := by
                rw [hp] at hkp
                replace hkp : (!refB (akL t S side) i o rv) = true := hkp
                cases hx : refB (akL t S side) i o rv with
                | true => rw [hx] at hkp; cases hkp
                | false => rfl
              have hA : ansF (akL t S side) s i o = (rw1 s.1 (6 * i + o) true, rw1 (rw1 s.2.1 rv none) i (some o), rw1 s.2.2 o (some i)) := by
                unfold ansF
                rw [hp]
                show (if refB (akL t S side) i o rv then _ else _) = _
                rw [hrf]; rfl
              rw [hp] at head
              rw [show (oI (some rv)).toNatClampNeg = rv from nI_clamp (by omega)] at head
              obtain ⟨J2, hJ2⟩ : ∃ J2, J2 = rw1 J 95 (upd (J 95) rv (-1)) := ⟨_, rfl⟩
              obtain ⟨I1, e1, e2, e3⟩ := acc J2 (rw1 s.2.1 rv none) hA (fun a ha => by rw [hJ2, rw1_n _ _ ha]) (fun q hq' => by
                rw [hJ2, rw1_s]
                unfold upd
                by_cases he : q = rv
                · rw [if_pos he, he, rw1_s]; rfl
                · rw [if_neg he, rw1_n _ _ he, j95]; exact hM.2.1 q hq') (fun q hq' => by
                rw [hJ2, rw1_s]
                unfold upd
                rw [if_neg (by omega), j95]; exact hM.2.2 q hq') (by rw [hJ2]; exact mJ.ow (by decide) _)
              exact ⟨I1, head _ _ ⟨_, im, fun e => absurd e (by decide), fun _ => ⟨v95 k.1 (by omega), fun e => absurd e (nI_pos (by omega)), fun _ => ⟨v95 k.1 (by omega), v95 k.1 (show rv < 12 by omega), fun I17 h17 => ⟨v95 k.1 (by omega), fun I19 h19 => ⟨v95 k.1 (by omega), fun I21 h21 => by
                rw [← hJ2] at h17
                rw [h17] at h19
                exact e1 I19 I21 h19 h21⟩⟩⟩⟩⟩, e2, e3⟩
end MWED2
