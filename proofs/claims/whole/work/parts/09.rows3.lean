theorem look_out {ps : List (Int × Int)} {df : Int} (x : Int32) (ks : List Int32) (h : x ∉ ks) (hk : ps.map (fun q => q.1) = ks.map Int32.toInt) : Op.lookupswitch.offset ps df x.toInt = df := by
  have hx : ∀ q ∈ ps, ¬ q.1 = x.toInt := by
    intro q hq e
    have h1 : q.1 ∈ ks.map Int32.toInt := by rw [← hk]; exact List.mem_map.mpr ⟨q, hq, rfl⟩
    obtain ⟨z, hz, hz2⟩ := List.mem_map.mp h1
    exact h (by rw [← Int32.toInt_inj.mp (hz2.trans e)]; exact hz)
  clear hk h
  induction ps with
  | nil => rfl
  | cons q l ih =>
    have h1 := hx q List.mem_cons_self
    have h2 := ih (fun z hz => hx z (List.mem_cons_of_mem _ hz))
    obtain ⟨a, b⟩ := q
    unfold Op.lookupswitch.offset
    simp at h1
    simp [h1, h2]
