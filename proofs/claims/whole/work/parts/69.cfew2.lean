/-! the class's fewest(), tells(): the texts asked for, the answer -/
def bnF (n : Nat) : Nat := n % 2 + n / 2 % 2 + n / 4 % 2 + n / 8 % 2
def setF (n : Nat) : Nat → List Nat
  | 0 => []
  | j + 1 => if n / 2 ^ j % 2 = 1 then setF n j ++ [j] else setF n j
def ttF (tx : List TX) (T : List Nat) (i : Nat) : TX := (tx[T.getD i 0]?).getD (none, none, none)
theorem bit_at : ∀ n, n < 16 → ∀ j, j < 4 → (nI n >>> (nI j &&& 31)) &&& 1 = nI (n / 2 ^ j % 2) := by decide +kernel
theorem set_bc : ∀ n, n < 16 → bnF n ≤ 3 → ∀ j, j < 5 → (setF n j).length ≤ bnF n := by decide +kernel
theorem set_len : ∀ m, m < 5 → ∀ n, n < 2 ^ m → 0 < n → bnF n ≤ 3 → 1 ≤ (setF n m).length := by
  intro m hm n hn h0 hb
  have hq : ∀ m, m < 5 → ∀ n, n < 16 → n < 2 ^ m → 0 < n → 1 ≤ (setF n m).length := by decide +kernel
  have : 2 ^ m ≤ 2 ^ 4 := Nat.pow_le_pow_right (by decide) (by omega)
  exact hq m hm n (by omega) hn h0
theorem set_lt : ∀ {n j t : Nat}, t ∈ setF n j → t < j := by
  intro n j
  induction j with
  | zero => intro t ht; cases ht
  | succ j ih =>
    intro t ht
    unfold setF at ht
    split at ht
    · rcases List.mem_append.mp ht with ht | ht
      · have := ih ht; omega
      · rw [List.mem_singleton.mp ht]; omega
    · have := ih ht; omega
theorem tt_ok {tx : List TX} {T : List Nat} (hT : ∀ t ∈ T, t < tx.length) {i : Nat} (hi : i < T.length) : tx[T.getD i 0]? = some (ttF tx T i) := by
  have h1 : T.getD i 0 < tx.length := hT _ (by
    rw [List.getD_eq_getElem?_getD, List.getElem?_eq_getElem hi]
    exact List.getElem_mem hi)
  unfold ttF
  rw [List.getElem?_eq_getElem h1]; rfl
def vFew (w h : Nat) (S : Nat → List Nat) (tx : List TX) (x1 x2 x3 x4 : Int32) : Prop := (∃ n, x1 = nI n ∧ 0 < n ∧ n < 2 ^ tx.length ∧ bnF n ≤ 3) ∧ (∃ p, x2 = nI p ∧ isP w h S p) ∧ (∃ c, x3 = nI c ∧ c < w * h) ∧ -1 ≤ x4
def vTel (w h : Nat) (S : Nat → List Nat) (tx : List TX) (x1 x2 x3 x4 : Int32) : Prop := (∃ a, x1 = nI a ∧ a < tx.length) ∧ (∃ b, x2 = nI b ∧ b < tx.length) ∧ (∃ p, x3 = nI p ∧ isP w h S p) ∧ -1 ≤ x4
/-- what fewest() answers -/
def fewF (w h : Nat) (S : Nat → List Nat) (tx : List TX) (n p c : Nat) (x4 : Int32) : Int32 := saF (skF w h (S 0) (setF n tx.length).length (ttF tx (setF n tx.length)) (some c) p) x4
def telF (w h : Nat) (S : Nat → List Nat) (tx : List TX) (a b p : Nat) (x4 : Int32) : Int32 := saF (skF w h (S 0) 2 (ttF tx [a, b]) none p) x4
theorem in_text {x : Int32} {n : Nat} (hn : n < 2 ^ 31) : (¬ x < 0 ∧ x < nI n) ↔ ∃ a, x = nI a ∧ a < n := by
  constructor
  · rintro ⟨h1, h2⟩
    obtain ⟨j, hj, rfl⟩ := nI_of h1
    exact ⟨j, rfl, (nI_ltI hj hn).mp h2⟩
  · rintro ⟨a, rfl, ha⟩
    exact nI_in0 ha hn
section CFEW2
variable {g : GE} {Z : Zs} {I : Nat → Nat → Int32} {L : Nat → Nat → Int64} {w h : Nat} {S K : Nat → List Nat} {tx tk : List TX} {sa : Nat}
theorem sp_bits {n : Nat} (hn : n < 16) : Cl g 1 mu_J6_bitCount_0f7a4 [.int (nI n)] (Z, I, L) (some (.int (nI (bnF n)))) (Z, I, L) := by
  refine cp_J6_bitCount_0f7a4 (fun y1 h1 y2 h2 y3 h3 y4 h4 y5 h5 => ⟨?_, rfl⟩)
  rw [h5, h4, h3, h2, h1]
  have cs : n = 0 ∨ n = 1 ∨ n = 2 ∨ n = 3 ∨ n = 4 ∨ n = 5 ∨ n = 6 ∨ n = 7 ∨ n = 8 ∨ n = 9 ∨ n = 10 ∨ n = 11 ∨ n = 12 ∨ n = 13 ∨ n = 14 ∨ n = 15 := by omega
  congr 2
  rcases cs with rfl | rfl | rfl | rfl | rfl | rfl | rfl | rfl | rfl | rfl | rfl | rfl | rfl | rfl | rfl | rfl <;> decide
theorem SS.xw {I1 : Nat → Nat → Int32} (k : SS Z I 24 w h K tk) (hE : ∀ sc, KM Z sc 6 → ¬ (sa ≤ sc ∧ sc ≤ sa + 6)) (hX : XF Z sa) (h99 : 99 ≤ sa) (hf : ∀ a, ¬ nowA a → ¬ (sa ≤ a ∧ a ≤ sa + 6) → I1 a = I a) : SS Z I1 24 w h K tk := by
  obtain ⟨k1, k2, k3, k4, k5, k6, k7⟩ := k
  have e18 : I1 (18 + 24) = I (18 + 24) := hf _ (by unfold nowA; omega) (by omega)
  refine ⟨by rw [e18]; exact k1, by rw [e18]; exact k2, k3, fun f hf2 => ?_, by rw [e18]; exact k5, k6, fun q t hq => ?_⟩
  · obtain ⟨b1, b2, b3⟩ := nA_in f hf2
    exact (k4 f hf2).kept (by rw [hf _ (by unfold nowA; omega) (by omega)]) (fun j _ => by rw [hf _ (by unfold nowA; omega) (by omega)])
  · obtain ⟨sc, h1, h2⟩ := k7 q t hq
    exact ⟨sc, h1, h2.xk (hE sc h2.2.1) (fun ar har => hX sc ar h2.2.1 har) (fun a h3 ha => hf a (by unfold nowA; omega) ha)⟩
theorem cut0 {m : Nat} (hm : m < 2 ^ 31) : (if (0 : Int32) < (if 0 < nI m then 0 else nI m) then (if 0 < nI m then 0 else nI m) else 0) = 0 := by
  by_cases h0 : m = 0
  · subst h0; decide
  · have h1 : nI 0 < nI m := nI_lt (by omega) hm
    have h2 : (0 : Int32) < nI m := h1
    rw [if_pos h2]
    exact ite_self _
theorem sp_goal (hE : SE Z sa) {m : Nat} (hm : m ≤ 3) (h1 : I (sa + 1) 1 = nI m) (goal : Option Nat) : ∃ I1, (∀ c, goal = some c → Cl g 3 mu_X7_goTo [rf g sa, .int (nI c)] (Z, I, L) none (Z, I1, L)) ∧ (goal = none → Cl g 3 mu_X7_goApart [rf g sa] (Z, I, L) none (Z, I1, L)) ∧ IL Z I1 (sa + 1) (sa + 2) 3 [] ∧ I1 sa 7 = oI goal ∧ ∀ a, a ≠ sa → a ≠ sa + 1 → I1 a = I a := by
  obtain ⟨e0, e1, e2, ⟨t1, t2, t3, t4, t5⟩, e4, e5, e6, e7⟩ := hE
  obtain ⟨J1, q1⟩ : ∃ J, J = rw1 I sa (upd (I sa) 7 (oI goal)) := ⟨_, rfl⟩
  obtain ⟨J2, q2⟩ : ∃ J, J = rw1 J1 (sa + 1) (upd (J1 (sa + 1)) 1 0) := ⟨_, rfl⟩
  have j1 : J1 (sa + 1) 1 = nI m := by rw [q1, rw1_n _ _ (by omega)]; exact h1
  have cu : Cl g 2 mu_X2_cutTo [rf g (sa + 1), .int 0] (Z, J1, L) none (Z, J2, L) := cp_X2_cutTo t2 (fun I1 hI1 => ⟨rfl, by rw [hI1, j1, cut0 (by omega), q2]⟩)
  refine ⟨J2, fun c hc => cp_X7_goTo e1 t1 t2 (fun I1 hI1 => ⟨J2, L, ?_, rfl, rfl⟩), fun hc => cp_X7_goApart e1 t1 t2 (fun I1 hI1 => ⟨J2, L, ?_, rfl, rfl⟩), ⟨t2, t3, t4, t5, by decide, by decide, ?_, fun k v hk => by cases hk⟩, ?_, fun a h1 h2 => by rw [q2, rw1_n _ _ h2, q1, rw1_n _ _ h1]⟩
  · have : I1 = J1 := by rw [hI1, q1, hc]; rfl
    rw [this]; exact cu
  · have : I1 = J1 := by rw [hI1, q1, hc]; rfl
    rw [this]; exact cu
  · rw [q2, rw1_s]; rfl
  · rw [q2, rw1_n _ _ (by omega), q1, rw1_s]; rfl
theorem sp_sadd (hE : SE Z sa) {T : List Nat} (hI : IL Z I (sa + 1) (sa + 2) 3 T) (hl : T.length < 3) (v : Nat) : ∃ I1, Cl g 2 mu_X7_add [rf g sa, .int (nI v)] (Z, I, L) none (Z, I1, L) ∧ IL Z I1 (sa + 1) (sa + 2) 3 (T ++ [v]) ∧ ∀ a, a ≠ sa + 1 → a ≠ sa + 2 → I1 a = I a := by
  obtain ⟨e0, e1, e2, ⟨t1, t2, t3, t4, t5⟩, e4, e5, e6, e7⟩ := hE
  obtain ⟨I1, a1, a2, a3⟩ := sp_add (g := g) (L := L) hI v
  rw [if_pos hl] at a2
  exact ⟨I1, cp_X7_add e1 t1 t2 ⟨I1, L, a1, rfl, rfl⟩, a2, a3⟩
theorem fw_run (hE : SE Z sa) (hX : XF Z sa) {n : Nat} (hn : n < 16) (hb : bnF n ≤ 3) {x2 x4 : Int32} : ∀ (d j : Nat) (I : Nat → Nat → Int32), j + d = tx.length → CL Z I w h S tx → IL Z I (sa + 1) (sa + 2) 3 (setF n j) →
    ∃ I1, (∀ r M', Lp_X11_fewest_72 g 8 0 (nI n) x2 x4 sa (nI tx.length) (Z, I1, L) r M' → Lp_X11_fewest_72 g 8 0 (nI n) x2 x4 sa (nI j) (Z, I, L) r M') ∧ CL Z I1 w h S tx ∧ IL Z I1 (sa + 1) (sa + 2) 3 (setF n tx.length) ∧ ∀ a, a ≠ sa + 1 → a ≠ sa + 2 → I1 a = I a := by
  intro d
  induction d with
  | zero =>
    intro j I hj cl hI
    have hj : j = tx.length := hj
    subst hj
    exact ⟨I, fun _ _ hc => hc, cl, hI, fun _ _ _ => rfl⟩
  | succ d ih =>
    intro j I hj cl hI
    obtain ⟨k, -⟩ := id cl
    have hx4 := k.2.2.2.2.2.2.2.1
    have e14 : I 18 14 = nI tx.length := k.2.2.2.2.2.2.1
    have eb := bit_at n hn j (by omega)
    have bl : n / 2 ^ j % 2 < 2 := Nat.mod_lt _ (by decide)
    have ge : ¬ I 18 14 ≤ nI j := by rw [e14]; exact nI_ge (by omega) (by omega)
    by_cases hbit : n / 2 ^ j % 2 = 1
    · have es : setF n (j + 1) = setF n j ++ [j] := by
        show (if n / 2 ^ j % 2 = 1 then _ else _) = _
        rw [if_pos hbit]
      have hl : (setF n j).length < 3 := by
        have := set_bc n hn hb (j + 1) (by omega)
        rw [es, List.length_append, List.length_singleton] at this
        omega
      obtain ⟨J, a1, a2, a3⟩ := sp_sadd (g := g) (L := L) hE hI hl j
      rw [← es] at a2
      have cl2 : CL Z J w h S tx := cl.xw hE hX (fun a ha => a3 a (by omega) (by omega))
      obtain ⟨I1, f1, f2, f3, f4⟩ := ih (j + 1) J (by omega) cl2 a2
      refine ⟨I1, fun r M' hc => wp_X11_fewest_72 (M := (Z, I, L)) (k.1.k 0 11 (by decide) (by decide)) hE.2.1 ⟨18, k.1.r 0 0 18 (by decide), k.1.k 18 8 (by decide) (by decide), fun e => absurd e ge, fun _ => ⟨fun e => absurd ?_ e, fun _ => ⟨(Z, J, L), a1, fun y hy => ?_⟩⟩⟩, f2, f3, fun a h1 h2 => by rw [f4 a h1 h2, a3 a h1 h2]⟩
      · rw [eb, hbit]; rfl
      · rw [hy, nI_1]; exact f1 r M' hc
    · have es : setF n (j + 1) = setF n j := by
        show (if n / 2 ^ j % 2 = 1 then _ else _) = _
        rw [if_neg hbit]
      have hb0 : n / 2 ^ j % 2 = 0 := by omega
      obtain ⟨I1, f1, f2, f3, f4⟩ := ih (j + 1) I (by omega) cl (by rw [es]; exact hI)
      refine ⟨I1, fun r M' hc => wp_X11_fewest_72 (M := (Z, I, L)) (k.1.k 0 11 (by decide) (by decide)) hE.2.1 ⟨18, k.1.r 0 0 18 (by decide), k.1.k 18 8 (by decide) (by decide), fun e => absurd e ge, fun _ => ⟨fun _ y hy => ?_, fun e => ?_⟩⟩, f2, f3, f4⟩
      · rw [hy, nI_1]; exact f1 r M' hc
      · rw [eb, hb0] at e
        exact absurd e (by decide)
/-- what stays of the class's things over a search -/
def SFr (Z : Zs) (I I1 : Nat → Nat → Int32) : Prop := ∀ a, a < Z.2.2.2.1 → ¬ nowA a → (a < 99 ∨ Z.1 a = 0) → I1 a = I a
theorem sx_end {Z1 : Zs} {J I1 : Nat → Nat → Int32} (gs : GSz Z Z1) (hi : SIz Z) (hS : Sh Z) (hE : SE Z1 sa) (hX : XF Z1 sa) (h12 : Z1.2.1 0 12 = some sa) (fJ : ∀ a, a < Z.2.2.2.1 → J a = I a) (b : SS Z I 24 w h K tk) (fr : ∀ a, ¬ nowA a → ¬ (sa ≤ a ∧ a ≤ sa + 6) → I1 a = J a) {T : List Nat} (hT : T.length ≤ 3) (hI1 : I1 (sa + 1) 1 = nI T.length) : SIz Z1 ∧ SXz Z1 I1 ∧ SS Z1 I1 24 w h K tk ∧ SFr Z I I1 := by
  refine ⟨gs.si hS.1 hS.no6 hi, fun s hs => ?_, ?_, fun a h1 h2 h3 => ?_⟩
  · rw [h12] at hs; cases hs
    exact ⟨hE, hX, T.length, hT, hI1⟩
  · have b0 : SS Z J 24 w h K tk := b.kept (fun a ha => fJ a (by
      have := hS.1
      rcases ha with ha | ha
      · unfold stS at ha; omega
      · exact ha.2))
    have b1 : SS Z1 J 24 w h K tk := b0.g gs.1 (Or.inr rfl) hS.1 (fun q _ => by rw [show (39 + 24 : Nat) = 63 from rfl, gs.2.2.1])
    exact b1.xw (fun sc hk => hE.no6 hk) hX hE.1 fr
  · have e0 := hE.1
    rw [fr a h2 (fun hc => ?_), fJ a h1]
    rcases h3 with h3 | h3
    · omega
    · have e1 : Z1.1 a = 0 := by rw [(gs.1.2.1 a h1).1]; exact h3
      obtain ⟨e0, e1', e2, ⟨t1, t2, t3, t4, t5⟩, ⟨r1, r2, r3⟩, ⟨b1, b2, b3⟩, ⟨p1, p2, p3⟩, ⟨s1, s2, s3⟩⟩ := hE
      have cs : a = sa ∨ a = sa + 1 ∨ a = sa + 2 ∨ a = sa + 3 ∨ a = sa + 4 ∨ a = sa + 5 ∨ a = sa + 6 := by omega
      rcases cs with rfl | rfl | rfl | rfl | rfl | rfl | rfl
      · rw [e1'.2] at e1; cases e1
      · rw [t2.2] at e1; cases e1
      · rw [t4.2] at e1; cases e1
      · rw [r2.2] at e1; cases e1
      · rw [b2.2] at e1; cases e1
      · rw [p2.2] at e1; cases e1
      · rw [s2.2] at e1; cases e1
theorem PO.il {n : Nat} {o : Option (Option Nat) × ST} {I1 : Nat → Nat → Int32} (hp : PO w h S I sa n o) (hf : ∀ a, sa ≤ a → a ≤ sa + 6 → I1 a = I a) : PO w h S I1 sa n o := fun j hj => by
  obtain ⟨a1, a2, a3, a4⟩ := hp j hj
  refine ⟨by rw [hf sa (by omega) (by omega)]; exact a1, a2, a3, fun k h0 hk => ?_⟩
  rw [hf (sa + 4) (by omega) (by omega), hf (sa + 5) (by omega) (by omega)]
  exact a4 k h0 hk
end CFEW2
