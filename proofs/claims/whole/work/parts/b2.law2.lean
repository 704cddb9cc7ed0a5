/-! the law, call by call -/
abbrev lvL (g : GE) (b i : Nat) : List (Nat × Value) := [(3, .int (nI i)), (2, rf g 76), (1, rf g 0), (0, .ref b)]
theorem px_le (Z : Zs) : Z.2.2.2.1 ≤ pxZ Z ∧ Z.2.2.2.2 ≤ psZ Z := by
  unfold pxZ psZ
  omega
section LAWS
variable {g : GE} {p : Program} {e : Env} {s : State} {m : MethodId} {below : List Frame} {meth : Method} {c : Code} {b L : Nat} {xs : Nat → Int32} {pc n tgt : Nat} {st : List Value} {M M1 : Mem} {w h : Nat}
theorem lg_self (v : Int64) : lg_cmp v v = 0 := by
  unfold lg_cmp
  simp
theorem lw_arg (C : LCw g p s m meth c b L xs) {i k : Nat} {z : Int} (hz : Int32.ofInt z = nI k) (hik : i + k < L) (hL : L ≤ 3074) (d0 : decode code pc = .ok (.aload_n 0, 1)) (d1 : decode code (pc + 1) = .ok (.iload_n 3, 1)) (d2 : decode code (pc + 2) = .ok (.iconst z, 1)) (d3 : decode code (pc + 3) = .ok (.iadd, 1)) (d4 : decode code (pc + 4) = .ok (.iaload, 1)) (hn : pc + 5 = n) (kk : Lw g p e s m below meth c b n (lvL g b i) (.int (xs (i + k)) :: st) M) : Lw g p e s m below meth c b pc (lvL g b i) st M := by
  subst hn
  refine lw_aload_n C (i := 0) (q := 3) rfl d0 rfl ?_
  refine lw_iload_n C (i := 3) (q := 0) rfl d1 rfl ?_
  refine lw_iconst C hz d2 rfl ?_
  refine lw_iadd C d3 rfl ?_
  rw [nI_add]
  refine lw_iald C (vp_in_nI hik (by omega)) d4 rfl ?_
  rw [nI_clamp (by omega)]; exact kk
theorem ca_cell (C : LCw g p s m meth c b L xs) (hL : L ≤ 3074) {i : Nat} (hi : i + 6 ≤ L) (k0 : KM M.1 0 11) (k76 : KM M.1 76 12) (b1 : pxZ M.1 + 2 ≤ room_1.cells) (b2 : psZ M.1 + 604 ≤ room_1.slots) (hA : AgI g 4 3 mu_X11_cell mu_X12_cell [.int (xs (i + 1)), .int (xs (i + 2))] M w h) (kk : ∀ M2 : Mem, (∃ S K tx tk tp ts, Jv M2.1 M2.2.1 w h S K tx tk tp ts) → pxZ M2.1 ≤ pxZ M.1 + 2 → psZ M2.1 ≤ psZ M.1 + 604 → Lw g p e s m below meth c b 1068 (lvL g b i) [] M2) : Lw g p e s m below meth c b 176 (lvL g b i) [] M := by
  obtain ⟨v, M1, M2, c1, c2, hj, p1, p2⟩ := hA
  have e1 := px_le M2.1
  have q1 := c2.1.1
  have q2 := c2.1.2.1
  have t1 : mx M2 ≤ pxZ M2.1 := e1.1
  have t2 : ms M2 ≤ psZ M2.1 := e1.2
  refine lw_aload_n C (i := 1) (q := 2) rfl dL_law_176 rfl ?_
  refine lw_arg C (k := 1) (by decide) (by omega) hL dL_law_177 dL_law_178 dL_law_179 dL_law_180 dL_law_181 rfl ?_
  refine lw_arg C (k := 2) (by decide) (by omega) hL dL_law_182 dL_law_183 dL_law_184 dL_law_185 dL_law_186 rfl ?_
  refine lw_callV C (ν := mu_X11_cell) (As := [.int (xs (i + 1)), .int (xs (i + 2))]) (st := []) dL_law_187 rfl ml_L_21 mo_X11_cell mi_X11_cell (ci := 11) rfl rfl k0 (by decide) rfl rfl (by decide) c1 (by omega) (by omega) ?_
  show Lw g p e s m below meth c b 190 (lvL g b i) [.int v] M1
  refine lw_aload_n C (i := 2) (q := 1) rfl dL_law_190 rfl ?_
  refine lw_arg C (k := 1) (by decide) (by omega) hL dL_law_191 dL_law_192 dL_law_193 dL_law_194 dL_law_195 rfl ?_
  refine lw_arg C (k := 2) (by decide) (by omega) hL dL_law_196 dL_law_197 dL_law_198 dL_law_199 dL_law_200 rfl ?_
  refine lw_callV C (ν := mu_X12_cell) (As := [.int (xs (i + 1)), .int (xs (i + 2))]) (st := [.int v]) dL_law_201 rfl ml_L_24 mo_X12_cell mi_X12_cell (ci := 12) rfl rfl (k76.ext c1.1) (by decide) rfl rfl (Nat.le_of_ble_eq_true rfl) c2 (by omega) (by omega) ?_
  show Lw g p e s m below meth c b 204 (lvL g b i) [.int v, .int v] M2
  refine lw_icmp_eq C (tgt := 1068) dL_law_204 (by decide) rfl ?_
  exact kk M2 hj p1 p2
theorem ca_pair (C : LCw g p s m meth c b L xs) (hL : L ≤ 3074) {i : Nat} (hi : i + 6 ≤ L) (k0 : KM M.1 0 11) (k76 : KM M.1 76 12) (b1 : pxZ M.1 + 2 ≤ room_1.cells) (b2 : psZ M.1 + 604 ≤ room_1.slots) (hA : AgI g 3 3 mu_X11_pair mu_X12_pair [.int (xs (i + 1)), .int (xs (i + 2))] M w h) (kk : ∀ M2 : Mem, (∃ S K tx tk tp ts, Jv M2.1 M2.2.1 w h S K tx tk tp ts) → pxZ M2.1 ≤ pxZ M.1 + 2 → psZ M2.1 ≤ psZ M.1 + 604 → Lw g p e s m below meth c b 1068 (lvL g b i) [] M2) : Lw g p e s m below meth c b 209 (lvL g b i) [] M := by
  obtain ⟨v, M1, M2, c1, c2, hj, p1, p2⟩ := hA
  have e1 := px_le M2.1
  have q1 := c2.1.1
  have q2 := c2.1.2.1
  have t1 : mx M2 ≤ pxZ M2.1 := e1.1
  have t2 : ms M2 ≤ psZ M2.1 := e1.2
  refine lw_aload_n C (i := 1) (q := 2) rfl dL_law_209 rfl ?_
  refine lw_arg C (k := 1) (by decide) (by omega) hL dL_law_210 dL_law_211 dL_law_212 dL_law_213 dL_law_214 rfl ?_
  refine lw_arg C (k := 2) (by decide) (by omega) hL dL_law_215 dL_law_216 dL_law_217 dL_law_218 dL_law_219 rfl ?_
  refine lw_callV C (ν := mu_X11_pair) (As := [.int (xs (i + 1)), .int (xs (i + 2))]) (st := []) dL_law_220 rfl ml_L_25 mo_X11_pair mi_X11_pair (ci := 11) rfl rfl k0 (by decide) rfl rfl (by decide) c1 (by omega) (by omega) ?_
  show Lw g p e s m below meth c b 223 (lvL g b i) [.int v] M1
  refine lw_aload_n C (i := 2) (q := 1) rfl dL_law_223 rfl ?_
  refine lw_arg C (k := 1) (by decide) (by omega) hL dL_law_224 dL_law_225 dL_law_226 dL_law_227 dL_law_228 rfl ?_
  refine lw_arg C (k := 2) (by decide) (by omega) hL dL_law_229 dL_law_230 dL_law_231 dL_law_232 dL_law_233 rfl ?_
  refine lw_callV C (ν := mu_X12_pair) (As := [.int (xs (i + 1)), .int (xs (i + 2))]) (st := [.int v]) dL_law_234 rfl ml_L_29 mo_X12_pair mi_X12_pair (ci := 12) rfl rfl (k76.ext c1.1) (by decide) rfl rfl (Nat.le_of_ble_eq_true rfl) c2 (by omega) (by omega) ?_
  show Lw g p e s m below meth c b 237 (lvL g b i) [.int v, .int v] M2
  refine lw_icmp_eq C (tgt := 1068) dL_law_237 (by decide) rfl ?_
  exact kk M2 hj p1 p2
theorem ca_feed (C : LCw g p s m meth c b L xs) (hL : L ≤ 3074) {i : Nat} (hi : i + 6 ≤ L) (k0 : KM M.1 0 11) (k76 : KM M.1 76 12) (b1 : pxZ M.1 + 2 ≤ room_1.cells) (b2 : psZ M.1 + 604 ≤ room_1.slots) (hA : AgI g 3 2 mu_X11_feed mu_X12_feed [.int (xs (i + 1)), .int (xs (i + 2)), .int (xs (i + 3)), .int (xs (i + 4)), .int (xs (i + 5))] M w h) (kk : ∀ M2 : Mem, (∃ S K tx tk tp ts, Jv M2.1 M2.2.1 w h S K tx tk tp ts) → pxZ M2.1 ≤ pxZ M.1 + 2 → psZ M2.1 ≤ psZ M.1 + 604 → Lw g p e s m below meth c b 1068 (lvL g b i) [] M2) : Lw g p e s m below meth c b 242 (lvL g b i) [] M := by
  obtain ⟨v, M1, M2, c1, c2, hj, p1, p2⟩ := hA
  have e1 := px_le M2.1
  have q1 := c2.1.1
  have q2 := c2.1.2.1
  have t1 : mx M2 ≤ pxZ M2.1 := e1.1
  have t2 : ms M2 ≤ psZ M2.1 := e1.2
  refine lw_aload_n C (i := 1) (q := 2) rfl dL_law_242 rfl ?_
  refine lw_arg C (k := 1) (by decide) (by omega) hL dL_law_243 dL_law_244 dL_law_245 dL_law_246 dL_law_247 rfl ?_
  refine lw_arg C (k := 2) (by decide) (by omega) hL dL_law_248 dL_law_249 dL_law_250 dL_law_251 dL_law_252 rfl ?_
  refine lw_arg C (k := 3) (by decide) (by omega) hL dL_law_253 dL_law_254 dL_law_255 dL_law_256 dL_law_257 rfl ?_
  refine lw_arg C (k := 4) (by decide) (by omega) hL dL_law_258 dL_law_259 dL_law_260 dL_law_261 dL_law_262 rfl ?_
  refine lw_arg C (k := 5) (by decide) (by omega) hL dL_law_263 dL_law_264 dL_law_265 dL_law_266 dL_law_267 rfl ?_
  refine lw_callV C (ν := mu_X11_feed) (As := [.int (xs (i + 1)), .int (xs (i + 2)), .int (xs (i + 3)), .int (xs (i + 4)), .int (xs (i + 5))]) (st := []) dL_law_268 rfl ml_L_30 mo_X11_feed mi_X11_feed (ci := 11) rfl rfl k0 (by decide) rfl rfl (by decide) c1 (by omega) (by omega) ?_
  show Lw g p e s m below meth c b 271 (lvL g b i) [.int v] M1
  refine lw_aload_n C (i := 2) (q := 1) rfl dL_law_271 rfl ?_
  refine lw_arg C (k := 1) (by decide) (by omega) hL dL_law_272 dL_law_273 dL_law_274 dL_law_275 dL_law_276 rfl ?_
  refine lw_arg C (k := 2) (by decide) (by omega) hL dL_law_277 dL_law_278 dL_law_279 dL_law_280 dL_law_281 rfl ?_
  refine lw_arg C (k := 3) (by decide) (by omega) hL dL_law_282 dL_law_283 dL_law_284 dL_law_285 dL_law_286 rfl ?_
  refine lw_arg C (k := 4) (by decide) (by omega) hL dL_law_287 dL_law_288 dL_law_289 dL_law_290 dL_law_291 rfl ?_
  refine lw_arg C (k := 5) (by decide) (by omega) hL dL_law_292 dL_law_293 dL_law_294 dL_law_295 dL_law_296 rfl ?_
  refine lw_callV C (ν := mu_X12_feed) (As := [.int (xs (i + 1)), .int (xs (i + 2)), .int (xs (i + 3)), .int (xs (i + 4)), .int (xs (i + 5))]) (st := [.int v]) dL_law_297 rfl ml_L_34 mo_X12_feed mi_X12_feed (ci := 12) rfl rfl (k76.ext c1.1) (by decide) rfl rfl (Nat.le_of_ble_eq_true rfl) c2 (by omega) (by omega) ?_
  show Lw g p e s m below meth c b 300 (lvL g b i) [.int v, .int v] M2
  refine lw_icmp_eq C (tgt := 1068) dL_law_300 (by decide) rfl ?_
  exact kk M2 hj p1 p2
theorem ca_end (C : LCw g p s m meth c b L xs) (hL : L ≤ 3074) {i : Nat} (hi : i + 6 ≤ L) (k0 : KM M.1 0 11) (k76 : KM M.1 76 12) (b1 : pxZ M.1 + 2 ≤ room_1.cells) (b2 : psZ M.1 + 604 ≤ room_1.slots) (hA : AgI g 3 2 mu_X11_end mu_X12_end [.int (xs (i + 1))] M w h) (kk : ∀ M2 : Mem, (∃ S K tx tk tp ts, Jv M2.1 M2.2.1 w h S K tx tk tp ts) → pxZ M2.1 ≤ pxZ M.1 + 2 → psZ M2.1 ≤ psZ M.1 + 604 → Lw g p e s m below meth c b 1068 (lvL g b i) [] M2) : Lw g p e s m below meth c b 305 (lvL g b i) [] M := by
  obtain ⟨v, M1, M2, c1, c2, hj, p1, p2⟩ := hA
  have e1 := px_le M2.1
  have q1 := c2.1.1
  have q2 := c2.1.2.1
  have t1 : mx M2 ≤ pxZ M2.1 := e1.1
  have t2 : ms M2 ≤ psZ M2.1 := e1.2
  refine lw_aload_n C (i := 1) (q := 2) rfl dL_law_305 rfl ?_
  refine lw_arg C (k := 1) (by decide) (by omega) hL dL_law_306 dL_law_307 dL_law_308 dL_law_309 dL_law_310 rfl ?_
  refine lw_callV C (ν := mu_X11_end) (As := [.int (xs (i + 1))]) (st := []) dL_law_311 rfl ml_L_35 mo_X11_end mi_X11_end (ci := 11) rfl rfl k0 (by decide) rfl rfl (by decide) c1 (by omega) (by omega) ?_
  show Lw g p e s m below meth c b 314 (lvL g b i) [.int v] M1
  refine lw_aload_n C (i := 2) (q := 1) rfl dL_law_314 rfl ?_
  refine lw_arg C (k := 1) (by decide) (by omega) hL dL_law_315 dL_law_316 dL_law_317 dL_law_318 dL_law_319 rfl ?_
  refine lw_callV C (ν := mu_X12_end) (As := [.int (xs (i + 1))]) (st := [.int v]) dL_law_320 rfl ml_L_39 mo_X12_end mi_X12_end (ci := 12) rfl rfl (k76.ext c1.1) (by decide) rfl rfl (Nat.le_of_ble_eq_true rfl) c2 (by omega) (by omega) ?_
  show Lw g p e s m below meth c b 323 (lvL g b i) [.int v, .int v] M2
  refine lw_icmp_eq C (tgt := 1068) dL_law_323 (by decide) rfl ?_
  exact kk M2 hj p1 p2
theorem ca_text (C : LCw g p s m meth c b L xs) (hL : L ≤ 3074) {i : Nat} (hi : i + 6 ≤ L) (k0 : KM M.1 0 11) (k76 : KM M.1 76 12) (b1 : pxZ M.1 + 2 ≤ room_1.cells) (b2 : psZ M.1 + 604 ≤ room_1.slots) (hA : AgI g 83 9 mu_X11_text mu_X12_text [] M w h) (kk : ∀ M2 : Mem, (∃ S K tx tk tp ts, Jv M2.1 M2.2.1 w h S K tx tk tp ts) → pxZ M2.1 ≤ pxZ M.1 + 2 → psZ M2.1 ≤ psZ M.1 + 604 → Lw g p e s m below meth c b 1068 (lvL g b i) [] M2) : Lw g p e s m below meth c b 328 (lvL g b i) [] M := by
  obtain ⟨v, M1, M2, c1, c2, hj, p1, p2⟩ := hA
  have e1 := px_le M2.1
  have q1 := c2.1.1
  have q2 := c2.1.2.1
  have t1 : mx M2 ≤ pxZ M2.1 := e1.1
  have t2 : ms M2 ≤ psZ M2.1 := e1.2
  refine lw_aload_n C (i := 1) (q := 2) rfl dL_law_328 rfl ?_
  refine lw_callV C (ν := mu_X11_text) (As := []) (st := []) dL_law_329 rfl ml_L_40 mo_X11_text mi_X11_text (ci := 11) rfl rfl k0 (by decide) rfl rfl (by decide) c1 (by omega) (by omega) ?_
  show Lw g p e s m below meth c b 332 (lvL g b i) [.int v] M1
  refine lw_aload_n C (i := 2) (q := 1) rfl dL_law_332 rfl ?_
  refine lw_callV C (ν := mu_X12_text) (As := []) (st := [.int v]) dL_law_333 rfl ml_L_44 mo_X12_text mi_X12_text (ci := 12) rfl rfl (k76.ext c1.1) (by decide) rfl rfl (Nat.le_of_ble_eq_true rfl) c2 (by omega) (by omega) ?_
  show Lw g p e s m below meth c b 336 (lvL g b i) [.int v, .int v] M2
  refine lw_icmp_eq C (tgt := 1068) dL_law_336 (by decide) rfl ?_
  exact kk M2 hj p1 p2
theorem ca_fault (C : LCw g p s m meth c b L xs) (hL : L ≤ 3074) {i : Nat} (hi : i + 6 ≤ L) (k0 : KM M.1 0 11) (k76 : KM M.1 76 12) (b1 : pxZ M.1 + 2 ≤ room_1.cells) (b2 : psZ M.1 + 604 ≤ room_1.slots) (hA : AgI g 1 1 mu_X11_fault mu_X12_fault [.int (xs (i + 1))] M w h) (kk : ∀ M2 : Mem, (∃ S K tx tk tp ts, Jv M2.1 M2.2.1 w h S K tx tk tp ts) → pxZ M2.1 ≤ pxZ M.1 + 2 → psZ M2.1 ≤ psZ M.1 + 604 → Lw g p e s m below meth c b 1068 (lvL g b i) [] M2) : Lw g p e s m below meth c b 341 (lvL g b i) [] M := by
  obtain ⟨v, M1, M2, c1, c2, hj, p1, p2⟩ := hA
  have e1 := px_le M2.1
  have q1 := c2.1.1
  have q2 := c2.1.2.1
  have t1 : mx M2 ≤ pxZ M2.1 := e1.1
  have t2 : ms M2 ≤ psZ M2.1 := e1.2
  refine lw_aload_n C (i := 1) (q := 2) rfl dL_law_341 rfl ?_
  refine lw_arg C (k := 1) (by decide) (by omega) hL dL_law_342 dL_law_343 dL_law_344 dL_law_345 dL_law_346 rfl ?_
  refine lw_callV C (ν := mu_X11_fault) (As := [.int (xs (i + 1))]) (st := []) dL_law_347 rfl ml_L_45 mo_X11_fault mi_X11_fault (ci := 11) rfl rfl k0 (by decide) rfl rfl (by decide) c1 (by omega) (by omega) ?_
  show Lw g p e s m below meth c b 350 (lvL g b i) [.int v] M1
  refine lw_aload_n C (i := 2) (q := 1) rfl dL_law_350 rfl ?_
  refine lw_arg C (k := 1) (by decide) (by omega) hL dL_law_351 dL_law_352 dL_law_353 dL_law_354 dL_law_355 rfl ?_
  refine lw_callV C (ν := mu_X12_fault) (As := [.int (xs (i + 1))]) (st := [.int v]) dL_law_356 rfl ml_L_48 mo_X12_fault mi_X12_fault (ci := 12) rfl rfl (k76.ext c1.1) (by decide) rfl rfl (Nat.le_of_ble_eq_true rfl) c2 (by omega) (by omega) ?_
  show Lw g p e s m below meth c b 359 (lvL g b i) [.int v, .int v] M2
  refine lw_icmp_eq C (tgt := 1068) dL_law_359 (by decide) rfl ?_
  exact kk M2 hj p1 p2
theorem ca_goes (C : LCw g p s m meth c b L xs) (hL : L ≤ 3074) {i : Nat} (hi : i + 6 ≤ L) (k0 : KM M.1 0 11) (k76 : KM M.1 76 12) (b1 : pxZ M.1 + 2 ≤ room_1.cells) (b2 : psZ M.1 + 604 ≤ room_1.slots) (hA : AgI g 6 6 mu_X11_goes mu_X12_goes [.int (xs (i + 1)), .int (xs (i + 2)), .int (xs (i + 3))] M w h) (kk : ∀ M2 : Mem, (∃ S K tx tk tp ts, Jv M2.1 M2.2.1 w h S K tx tk tp ts) → pxZ M2.1 ≤ pxZ M.1 + 2 → psZ M2.1 ≤ psZ M.1 + 604 → Lw g p e s m below meth c b 1068 (lvL g b i) [] M2) : Lw g p e s m below meth c b 364 (lvL g b i) [] M := by
  obtain ⟨v, M1, M2, c1, c2, hj, p1, p2⟩ := hA
  have e1 := px_le M2.1
  have q1 := c2.1.1
  have q2 := c2.1.2.1
  have t1 : mx M2 ≤ pxZ M2.1 := e1.1
  have t2 : ms M2 ≤ psZ M2.1 := e1.2
  refine lw_aload_n C (i := 1) (q := 2) rfl dL_law_364 rfl ?_
  refine lw_arg C (k := 1) (by decide) (by omega) hL dL_law_365 dL_law_366 dL_law_367 dL_law_368 dL_law_369 rfl ?_
  refine lw_arg C (k := 2) (by decide) (by omega) hL dL_law_370 dL_law_371 dL_law_372 dL_law_373 dL_law_374 rfl ?_
  refine lw_arg C (k := 3) (by decide) (by omega) hL dL_law_375 dL_law_376 dL_law_377 dL_law_378 dL_law_379 rfl ?_
  refine lw_callV C (ν := mu_X11_goes) (As := [.int (xs (i + 1)), .int (xs (i + 2)), .int (xs (i + 3))]) (st := []) dL_law_380 rfl ml_L_49 mo_X11_goes mi_X11_goes (ci := 11) rfl rfl k0 (by decide) rfl rfl (by decide) c1 (by omega) (by omega) ?_
  show Lw g p e s m below meth c b 383 (lvL g b i) [.int v] M1
  refine lw_aload_n C (i := 2) (q := 1) rfl dL_law_383 rfl ?_
  refine lw_arg C (k := 1) (by decide) (by omega) hL dL_law_384 dL_law_385 dL_law_386 dL_law_387 dL_law_388 rfl ?_
  refine lw_arg C (k := 2) (by decide) (by omega) hL dL_law_389 dL_law_390 dL_law_391 dL_law_392 dL_law_393 rfl ?_
  refine lw_arg C (k := 3) (by decide) (by omega) hL dL_law_394 dL_law_395 dL_law_396 dL_law_397 dL_law_398 rfl ?_
  refine lw_callV C (ν := mu_X12_goes) (As := [.int (xs (i + 1)), .int (xs (i + 2)), .int (xs (i + 3))]) (st := [.int v]) dL_law_399 rfl ml_L_53 mo_X12_goes mi_X12_goes (ci := 12) rfl rfl (k76.ext c1.1) (by decide) rfl rfl (Nat.le_of_ble_eq_true rfl) c2 (by omega) (by omega) ?_
  show Lw g p e s m below meth c b 402 (lvL g b i) [.int v, .int v] M2
  refine lw_icmp_eq C (tgt := 1068) dL_law_402 (by decide) rfl ?_
  exact kk M2 hj p1 p2
theorem ca_tap (C : LCw g p s m meth c b L xs) (hL : L ≤ 3074) {i : Nat} (hi : i + 6 ≤ L) (k0 : KM M.1 0 11) (k76 : KM M.1 76 12) (b1 : pxZ M.1 + 2 ≤ room_1.cells) (b2 : psZ M.1 + 604 ≤ room_1.slots) (hA : AgI g 6 6 mu_X11_tap mu_X12_tap [.int (xs (i + 1)), .int (xs (i + 2))] M w h) (kk : ∀ M2 : Mem, (∃ S K tx tk tp ts, Jv M2.1 M2.2.1 w h S K tx tk tp ts) → pxZ M2.1 ≤ pxZ M.1 + 2 → psZ M2.1 ≤ psZ M.1 + 604 → Lw g p e s m below meth c b 1068 (lvL g b i) [] M2) : Lw g p e s m below meth c b 407 (lvL g b i) [] M := by
  obtain ⟨v, M1, M2, c1, c2, hj, p1, p2⟩ := hA
  have e1 := px_le M2.1
  have q1 := c2.1.1
  have q2 := c2.1.2.1
  have t1 : mx M2 ≤ pxZ M2.1 := e1.1
  have t2 : ms M2 ≤ psZ M2.1 := e1.2
  refine lw_aload_n C (i := 1) (q := 2) rfl dL_law_407 rfl ?_
  refine lw_arg C (k := 1) (by decide) (by omega) hL dL_law_408 dL_law_409 dL_law_410 dL_law_411 dL_law_412 rfl ?_
  refine lw_arg C (k := 2) (by decide) (by omega) hL dL_law_413 dL_law_414 dL_law_415 dL_law_416 dL_law_417 rfl ?_
  refine lw_callV C (ν := mu_X11_tap) (As := [.int (xs (i + 1)), .int (xs (i + 2))]) (st := []) dL_law_418 rfl ml_L_54 mo_X11_tap mi_X11_tap (ci := 11) rfl rfl k0 (by decide) rfl rfl (by decide) c1 (by omega) (by omega) ?_
  show Lw g p e s m below meth c b 421 (lvL g b i) [.int v] M1
  refine lw_aload_n C (i := 2) (q := 1) rfl dL_law_421 rfl ?_
  refine lw_arg C (k := 1) (by decide) (by omega) hL dL_law_422 dL_law_423 dL_law_424 dL_law_425 dL_law_426 rfl ?_
  refine lw_arg C (k := 2) (by decide) (by omega) hL dL_law_427 dL_law_428 dL_law_429 dL_law_430 dL_law_431 rfl ?_
  refine lw_callV C (ν := mu_X12_tap) (As := [.int (xs (i + 1)), .int (xs (i + 2))]) (st := [.int v]) dL_law_432 rfl ml_L_57 mo_X12_tap mi_X12_tap (ci := 12) rfl rfl (k76.ext c1.1) (by decide) rfl rfl (Nat.le_of_ble_eq_true rfl) c2 (by omega) (by omega) ?_
  show Lw g p e s m below meth c b 435 (lvL g b i) [.int v, .int v] M2
  refine lw_icmp_eq C (tgt := 1068) dL_law_435 (by decide) rfl ?_
  exact kk M2 hj p1 p2
theorem ca_row (C : LCw g p s m meth c b L xs) (hL : L ≤ 3074) {i : Nat} (hi : i + 6 ≤ L) (k0 : KM M.1 0 11) (k76 : KM M.1 76 12) (b1 : pxZ M.1 + 2 ≤ room_1.cells) (b2 : psZ M.1 + 604 ≤ room_1.slots) (hA : AgI g 3 2 mu_X11_row mu_X12_row [.int (xs (i + 1))] M w h) (kk : ∀ M2 : Mem, (∃ S K tx tk tp ts, Jv M2.1 M2.2.1 w h S K tx tk tp ts) → pxZ M2.1 ≤ pxZ M.1 + 2 → psZ M2.1 ≤ psZ M.1 + 604 → Lw g p e s m below meth c b 1068 (lvL g b i) [] M2) : Lw g p e s m below meth c b 440 (lvL g b i) [] M := by
  obtain ⟨v, M1, M2, c1, c2, hj, p1, p2⟩ := hA
  have e1 := px_le M2.1
  have q1 := c2.1.1
  have q2 := c2.1.2.1
  have t1 : mx M2 ≤ pxZ M2.1 := e1.1
  have t2 : ms M2 ≤ psZ M2.1 := e1.2
  refine lw_aload_n C (i := 1) (q := 2) rfl dL_law_440 rfl ?_
  refine lw_arg C (k := 1) (by decide) (by omega) hL dL_law_441 dL_law_442 dL_law_443 dL_law_444 dL_law_445 rfl ?_
  refine lw_callV C (ν := mu_X11_row) (As := [.int (xs (i + 1))]) (st := []) dL_law_446 rfl ml_L_58 mo_X11_row mi_X11_row (ci := 11) rfl rfl k0 (by decide) rfl rfl (by decide) c1 (by omega) (by omega) ?_
  show Lw g p e s m below meth c b 449 (lvL g b i) [.int v] M1
  refine lw_aload_n C (i := 2) (q := 1) rfl dL_law_449 rfl ?_
  refine lw_arg C (k := 1) (by decide) (by omega) hL dL_law_450 dL_law_451 dL_law_452 dL_law_453 dL_law_454 rfl ?_
  refine lw_callV C (ν := mu_X12_row) (As := [.int (xs (i + 1))]) (st := [.int v]) dL_law_455 rfl ml_L_61 mo_X12_row mi_X12_row (ci := 12) rfl rfl (k76.ext c1.1) (by decide) rfl rfl (Nat.le_of_ble_eq_true rfl) c2 (by omega) (by omega) ?_
  show Lw g p e s m below meth c b 458 (lvL g b i) [.int v, .int v] M2
  refine lw_icmp_eq C (tgt := 1068) dL_law_458 (by decide) rfl ?_
  exact kk M2 hj p1 p2
theorem ca_walk (C : LCw g p s m meth c b L xs) (hL : L ≤ 3074) {i : Nat} (hi : i + 6 ≤ L) (k0 : KM M.1 0 11) (k76 : KM M.1 76 12) (b1 : pxZ M.1 + 2 ≤ room_1.cells) (b2 : psZ M.1 + 604 ≤ room_1.slots) (hA : AgI g 6 6 mu_X11_walk mu_X12_walk [.int (xs (i + 1))] M w h) (kk : ∀ M2 : Mem, (∃ S K tx tk tp ts, Jv M2.1 M2.2.1 w h S K tx tk tp ts) → pxZ M2.1 ≤ pxZ M.1 + 2 → psZ M2.1 ≤ psZ M.1 + 604 → Lw g p e s m below meth c b 1068 (lvL g b i) [] M2) : Lw g p e s m below meth c b 463 (lvL g b i) [] M := by
  obtain ⟨v, M1, M2, c1, c2, hj, p1, p2⟩ := hA
  have e1 := px_le M2.1
  have q1 := c2.1.1
  have q2 := c2.1.2.1
  have t1 : mx M2 ≤ pxZ M2.1 := e1.1
  have t2 : ms M2 ≤ psZ M2.1 := e1.2
  refine lw_aload_n C (i := 1) (q := 2) rfl dL_law_463 rfl ?_
  refine lw_arg C (k := 1) (by decide) (by omega) hL dL_law_464 dL_law_465 dL_law_466 dL_law_467 dL_law_468 rfl ?_
  refine lw_callV C (ν := mu_X11_walk) (As := [.int (xs (i + 1))]) (st := []) dL_law_469 rfl ml_L_62 mo_X11_walk mi_X11_walk (ci := 11) rfl rfl k0 (by decide) rfl rfl (by decide) c1 (by omega) (by omega) ?_
  show Lw g p e s m below meth c b 472 (lvL g b i) [.int v] M1
  refine lw_aload_n C (i := 2) (q := 1) rfl dL_law_472 rfl ?_
  refine lw_arg C (k := 1) (by decide) (by omega) hL dL_law_473 dL_law_474 dL_law_475 dL_law_476 dL_law_477 rfl ?_
  refine lw_callV C (ν := mu_X12_walk) (As := [.int (xs (i + 1))]) (st := [.int v]) dL_law_478 rfl ml_L_65 mo_X12_walk mi_X12_walk (ci := 12) rfl rfl (k76.ext c1.1) (by decide) rfl rfl (Nat.le_of_ble_eq_true rfl) c2 (by omega) (by omega) ?_
  show Lw g p e s m below meth c b 481 (lvL g b i) [.int v, .int v] M2
  refine lw_icmp_eq C (tgt := 1068) dL_law_481 (by decide) rfl ?_
  exact kk M2 hj p1 p2
theorem ca_undo (C : LCw g p s m meth c b L xs) (hL : L ≤ 3074) {i : Nat} (hi : i + 6 ≤ L) (k0 : KM M.1 0 11) (k76 : KM M.1 76 12) (b1 : pxZ M.1 + 2 ≤ room_1.cells) (b2 : psZ M.1 + 604 ≤ room_1.slots) (hA : AgI g 3 1 mu_X11_undo mu_X12_undo [] M w h) (kk : ∀ M2 : Mem, (∃ S K tx tk tp ts, Jv M2.1 M2.2.1 w h S K tx tk tp ts) → pxZ M2.1 ≤ pxZ M.1 + 2 → psZ M2.1 ≤ psZ M.1 + 604 → Lw g p e s m below meth c b 1068 (lvL g b i) [] M2) : Lw g p e s m below meth c b 486 (lvL g b i) [] M := by
  obtain ⟨v, M1, M2, c1, c2, hj, p1, p2⟩ := hA
  have e1 := px_le M2.1
  have q1 := c2.1.1
  have q2 := c2.1.2.1
  have t1 : mx M2 ≤ pxZ M2.1 := e1.1
  have t2 : ms M2 ≤ psZ M2.1 := e1.2
  refine lw_aload_n C (i := 1) (q := 2) rfl dL_law_486 rfl ?_
  refine lw_callV C (ν := mu_X11_undo) (As := []) (st := []) dL_law_487 rfl ml_L_66 mo_X11_undo mi_X11_undo (ci := 11) rfl rfl k0 (by decide) rfl rfl (by decide) c1 (by omega) (by omega) ?_
  show Lw g p e s m below meth c b 490 (lvL g b i) [.int v] M1
  refine lw_aload_n C (i := 2) (q := 1) rfl dL_law_490 rfl ?_
  refine lw_callV C (ν := mu_X12_undo) (As := []) (st := [.int v]) dL_law_491 rfl ml_L_69 mo_X12_undo mi_X12_undo (ci := 12) rfl rfl (k76.ext c1.1) (by decide) rfl rfl (Nat.le_of_ble_eq_true rfl) c2 (by omega) (by omega) ?_
  show Lw g p e s m below meth c b 494 (lvL g b i) [.int v, .int v] M2
  refine lw_icmp_eq C (tgt := 1068) dL_law_494 (by decide) rfl ?_
  exact kk M2 hj p1 p2
theorem ca_of (C : LCw g p s m meth c b L xs) (hL : L ≤ 3074) {i : Nat} (hi : i + 6 ≤ L) (k0 : KM M.1 0 11) (k76 : KM M.1 76 12) (b1 : pxZ M.1 + 2 ≤ room_1.cells) (b2 : psZ M.1 + 604 ≤ room_1.slots) (hA : AgI g 3 3 mu_X11_of mu_X12_of [.int (xs (i + 1)), .int (xs (i + 2))] M w h) (kk : ∀ M2 : Mem, (∃ S K tx tk tp ts, Jv M2.1 M2.2.1 w h S K tx tk tp ts) → pxZ M2.1 ≤ pxZ M.1 + 2 → psZ M2.1 ≤ psZ M.1 + 604 → Lw g p e s m below meth c b 1068 (lvL g b i) [] M2) : Lw g p e s m below meth c b 499 (lvL g b i) [] M := by
  obtain ⟨v, M1, M2, c1, c2, hj, p1, p2⟩ := hA
  have e1 := px_le M2.1
  have q1 := c2.1.1
  have q2 := c2.1.2.1
  have t1 : mx M2 ≤ pxZ M2.1 := e1.1
  have t2 : ms M2 ≤ psZ M2.1 := e1.2
  refine lw_aload_n C (i := 1) (q := 2) rfl dL_law_499 rfl ?_
  refine lw_arg C (k := 1) (by decide) (by omega) hL dL_law_500 dL_law_501 dL_law_502 dL_law_503 dL_law_504 rfl ?_
  refine lw_arg C (k := 2) (by decide) (by omega) hL dL_law_505 dL_law_506 dL_law_507 dL_law_508 dL_law_509 rfl ?_
  refine lw_callV C (ν := mu_X11_of) (As := [.int (xs (i + 1)), .int (xs (i + 2))]) (st := []) dL_law_510 rfl ml_L_70 mo_X11_of mi_X11_of (ci := 11) rfl rfl k0 (by decide) rfl rfl (by decide) c1 (by omega) (by omega) ?_
  show Lw g p e s m below meth c b 513 (lvL g b i) [.int v] M1
  refine lw_aload_n C (i := 2) (q := 1) rfl dL_law_513 rfl ?_
  refine lw_arg C (k := 1) (by decide) (by omega) hL dL_law_514 dL_law_515 dL_law_516 dL_law_517 dL_law_518 rfl ?_
  refine lw_arg C (k := 2) (by decide) (by omega) hL dL_law_519 dL_law_520 dL_law_521 dL_law_522 dL_law_523 rfl ?_
  refine lw_callV C (ν := mu_X12_of) (As := [.int (xs (i + 1)), .int (xs (i + 2))]) (st := [.int v]) dL_law_524 rfl ml_L_73 mo_X12_of mi_X12_of (ci := 12) rfl rfl (k76.ext c1.1) (by decide) rfl rfl (Nat.le_of_ble_eq_true rfl) c2 (by omega) (by omega) ?_
  show Lw g p e s m below meth c b 527 (lvL g b i) [.int v, .int v] M2
  refine lw_icmp_eq C (tgt := 1068) dL_law_527 (by decide) rfl ?_
  exact kk M2 hj p1 p2
theorem ca_fewest (C : LCw g p s m meth c b L xs) (hL : L ≤ 3074) {i : Nat} (hi : i + 6 ≤ L) (k0 : KM M.1 0 11) (k76 : KM M.1 76 12) (b1 : pxZ M.1 + 2 ≤ room_1.cells) (b2 : psZ M.1 + 604 ≤ room_1.slots) (hA : AgI g 8 8 mu_X11_fewest mu_X12_fewest [.int (xs (i + 1)), .int (xs (i + 2)), .int (xs (i + 3)), .int (xs (i + 4))] M w h) (kk : ∀ M2 : Mem, (∃ S K tx tk tp ts, Jv M2.1 M2.2.1 w h S K tx tk tp ts) → pxZ M2.1 ≤ pxZ M.1 + 2 → psZ M2.1 ≤ psZ M.1 + 604 → Lw g p e s m below meth c b 1068 (lvL g b i) [] M2) : Lw g p e s m below meth c b 532 (lvL g b i) [] M := by
  obtain ⟨v, M1, M2, c1, c2, hj, p1, p2⟩ := hA
  have e1 := px_le M2.1
  have q1 := c2.1.1
  have q2 := c2.1.2.1
  have t1 : mx M2 ≤ pxZ M2.1 := e1.1
  have t2 : ms M2 ≤ psZ M2.1 := e1.2
  refine lw_aload_n C (i := 1) (q := 2) rfl dL_law_532 rfl ?_
  refine lw_arg C (k := 1) (by decide) (by omega) hL dL_law_533 dL_law_534 dL_law_535 dL_law_536 dL_law_537 rfl ?_
  refine lw_arg C (k := 2) (by decide) (by omega) hL dL_law_538 dL_law_539 dL_law_540 dL_law_541 dL_law_542 rfl ?_
  refine lw_arg C (k := 3) (by decide) (by omega) hL dL_law_543 dL_law_544 dL_law_545 dL_law_546 dL_law_547 rfl ?_
  refine lw_arg C (k := 4) (by decide) (by omega) hL dL_law_548 dL_law_549 dL_law_550 dL_law_551 dL_law_552 rfl ?_
  refine lw_callV C (ν := mu_X11_fewest) (As := [.int (xs (i + 1)), .int (xs (i + 2)), .int (xs (i + 3)), .int (xs (i + 4))]) (st := []) dL_law_553 rfl ml_L_74 mo_X11_fewest mi_X11_fewest (ci := 11) rfl rfl k0 (by decide) rfl rfl (by decide) c1 (by omega) (by omega) ?_
  show Lw g p e s m below meth c b 556 (lvL g b i) [.int v] M1
  refine lw_aload_n C (i := 2) (q := 1) rfl dL_law_556 rfl ?_
  refine lw_arg C (k := 1) (by decide) (by omega) hL dL_law_557 dL_law_558 dL_law_559 dL_law_560 dL_law_561 rfl ?_
  refine lw_arg C (k := 2) (by decide) (by omega) hL dL_law_562 dL_law_563 dL_law_564 dL_law_565 dL_law_566 rfl ?_
  refine lw_arg C (k := 3) (by decide) (by omega) hL dL_law_567 dL_law_568 dL_law_569 dL_law_570 dL_law_571 rfl ?_
  refine lw_arg C (k := 4) (by decide) (by omega) hL dL_law_572 dL_law_573 dL_law_574 dL_law_575 dL_law_576 rfl ?_
  refine lw_callV C (ν := mu_X12_fewest) (As := [.int (xs (i + 1)), .int (xs (i + 2)), .int (xs (i + 3)), .int (xs (i + 4))]) (st := [.int v]) dL_law_577 rfl ml_L_78 mo_X12_fewest mi_X12_fewest (ci := 12) rfl rfl (k76.ext c1.1) (by decide) rfl rfl (Nat.le_of_ble_eq_true rfl) c2 (by omega) (by omega) ?_
  show Lw g p e s m below meth c b 580 (lvL g b i) [.int v, .int v] M2
  refine lw_icmp_eq C (tgt := 1068) dL_law_580 (by decide) rfl ?_
  exact kk M2 hj p1 p2
theorem ca_tells (C : LCw g p s m meth c b L xs) (hL : L ≤ 3074) {i : Nat} (hi : i + 6 ≤ L) (k0 : KM M.1 0 11) (k76 : KM M.1 76 12) (b1 : pxZ M.1 + 2 ≤ room_1.cells) (b2 : psZ M.1 + 604 ≤ room_1.slots) (hA : AgI g 8 8 mu_X11_tells mu_X12_tells [.int (xs (i + 1)), .int (xs (i + 2)), .int (xs (i + 3)), .int (xs (i + 4))] M w h) (kk : ∀ M2 : Mem, (∃ S K tx tk tp ts, Jv M2.1 M2.2.1 w h S K tx tk tp ts) → pxZ M2.1 ≤ pxZ M.1 + 2 → psZ M2.1 ≤ psZ M.1 + 604 → Lw g p e s m below meth c b 1068 (lvL g b i) [] M2) : Lw g p e s m below meth c b 585 (lvL g b i) [] M := by
  obtain ⟨v, M1, M2, c1, c2, hj, p1, p2⟩ := hA
  have e1 := px_le M2.1
  have q1 := c2.1.1
  have q2 := c2.1.2.1
  have t1 : mx M2 ≤ pxZ M2.1 := e1.1
  have t2 : ms M2 ≤ psZ M2.1 := e1.2
  refine lw_aload_n C (i := 1) (q := 2) rfl dL_law_585 rfl ?_
  refine lw_arg C (k := 1) (by decide) (by omega) hL dL_law_586 dL_law_587 dL_law_588 dL_law_589 dL_law_590 rfl ?_
  refine lw_arg C (k := 2) (by decide) (by omega) hL dL_law_591 dL_law_592 dL_law_593 dL_law_594 dL_law_595 rfl ?_
  refine lw_arg C (k := 3) (by decide) (by omega) hL dL_law_596 dL_law_597 dL_law_598 dL_law_599 dL_law_600 rfl ?_
  refine lw_arg C (k := 4) (by decide) (by omega) hL dL_law_601 dL_law_602 dL_law_603 dL_law_604 dL_law_605 rfl ?_
  refine lw_callV C (ν := mu_X11_tells) (As := [.int (xs (i + 1)), .int (xs (i + 2)), .int (xs (i + 3)), .int (xs (i + 4))]) (st := []) dL_law_606 rfl ml_L_79 mo_X11_tells mi_X11_tells (ci := 11) rfl rfl k0 (by decide) rfl rfl (by decide) c1 (by omega) (by omega) ?_
  show Lw g p e s m below meth c b 609 (lvL g b i) [.int v] M1
  refine lw_aload_n C (i := 2) (q := 1) rfl dL_law_609 rfl ?_
  refine lw_arg C (k := 1) (by decide) (by omega) hL dL_law_610 dL_law_611 dL_law_612 dL_law_613 dL_law_614 rfl ?_
  refine lw_arg C (k := 2) (by decide) (by omega) hL dL_law_615 dL_law_616 dL_law_617 dL_law_618 dL_law_619 rfl ?_
  refine lw_arg C (k := 3) (by decide) (by omega) hL dL_law_620 dL_law_621 dL_law_622 dL_law_623 dL_law_624 rfl ?_
  refine lw_arg C (k := 4) (by decide) (by omega) hL dL_law_625 dL_law_626 dL_law_627 dL_law_628 dL_law_629 rfl ?_
  refine lw_callV C (ν := mu_X12_tells) (As := [.int (xs (i + 1)), .int (xs (i + 2)), .int (xs (i + 3)), .int (xs (i + 4))]) (st := [.int v]) dL_law_630 rfl ml_L_82 mo_X12_tells mi_X12_tells (ci := 12) rfl rfl (k76.ext c1.1) (by decide) rfl rfl (Nat.le_of_ble_eq_true rfl) c2 (by omega) (by omega) ?_
  show Lw g p e s m below meth c b 633 (lvL g b i) [.int v, .int v] M2
  refine lw_icmp_eq C (tgt := 1068) dL_law_633 (by decide) rfl ?_
  exact kk M2 hj p1 p2
theorem ca_odds (C : LCw g p s m meth c b L xs) (hL : L ≤ 3074) {i : Nat} (hi : i + 6 ≤ L) (k0 : KM M.1 0 11) (k76 : KM M.1 76 12) (b1 : pxZ M.1 + 2 ≤ room_1.cells) (b2 : psZ M.1 + 604 ≤ room_1.slots) (hA : AgL g 7 7 mu_X11_odds mu_X12_odds [.int (xs (i + 1)), .int (xs (i + 2)), .int (xs (i + 3)), .int (xs (i + 4)), .int (xs (i + 5))] M w h) (kk : ∀ M2 : Mem, (∃ S K tx tk tp ts, Jv M2.1 M2.2.1 w h S K tx tk tp ts) → pxZ M2.1 ≤ pxZ M.1 + 2 → psZ M2.1 ≤ psZ M.1 + 604 → Lw g p e s m below meth c b 1068 (lvL g b i) [] M2) : Lw g p e s m below meth c b 638 (lvL g b i) [] M := by
  obtain ⟨v, M1, M2, c1, c2, hj, p1, p2⟩ := hA
  have e1 := px_le M2.1
  have q1 := c2.1.1
  have q2 := c2.1.2.1
  have t1 : mx M2 ≤ pxZ M2.1 := e1.1
  have t2 : ms M2 ≤ psZ M2.1 := e1.2
  refine lw_aload_n C (i := 1) (q := 2) rfl dL_law_638 rfl ?_
  refine lw_arg C (k := 1) (by decide) (by omega) hL dL_law_639 dL_law_640 dL_law_641 dL_law_642 dL_law_643 rfl ?_
  refine lw_arg C (k := 2) (by decide) (by omega) hL dL_law_644 dL_law_645 dL_law_646 dL_law_647 dL_law_648 rfl ?_
  refine lw_arg C (k := 3) (by decide) (by omega) hL dL_law_649 dL_law_650 dL_law_651 dL_law_652 dL_law_653 rfl ?_
  refine lw_arg C (k := 4) (by decide) (by omega) hL dL_law_654 dL_law_655 dL_law_656 dL_law_657 dL_law_658 rfl ?_
  refine lw_arg C (k := 5) (by decide) (by omega) hL dL_law_659 dL_law_660 dL_law_661 dL_law_662 dL_law_663 rfl ?_
  refine lw_callV C (ν := mu_X11_odds) (As := [.int (xs (i + 1)), .int (xs (i + 2)), .int (xs (i + 3)), .int (xs (i + 4)), .int (xs (i + 5))]) (st := []) dL_law_664 rfl ml_L_83 mo_X11_odds mi_X11_odds (ci := 11) rfl rfl k0 (by decide) rfl rfl (by decide) c1 (by omega) (by omega) ?_
  show Lw g p e s m below meth c b 667 (lvL g b i) [.long v] M1
  refine lw_aload_n C (i := 2) (q := 1) rfl dL_law_667 rfl ?_
  refine lw_arg C (k := 1) (by decide) (by omega) hL dL_law_668 dL_law_669 dL_law_670 dL_law_671 dL_law_672 rfl ?_
  refine lw_arg C (k := 2) (by decide) (by omega) hL dL_law_673 dL_law_674 dL_law_675 dL_law_676 dL_law_677 rfl ?_
  refine lw_arg C (k := 3) (by decide) (by omega) hL dL_law_678 dL_law_679 dL_law_680 dL_law_681 dL_law_682 rfl ?_
  refine lw_arg C (k := 4) (by decide) (by omega) hL dL_law_683 dL_law_684 dL_law_685 dL_law_686 dL_law_687 rfl ?_
  refine lw_arg C (k := 5) (by decide) (by omega) hL dL_law_688 dL_law_689 dL_law_690 dL_law_691 dL_law_692 rfl ?_
  refine lw_callV C (ν := mu_X12_odds) (As := [.int (xs (i + 1)), .int (xs (i + 2)), .int (xs (i + 3)), .int (xs (i + 4)), .int (xs (i + 5))]) (st := [.long v]) dL_law_693 rfl ml_L_87 mo_X12_odds mi_X12_odds (ci := 12) rfl rfl (k76.ext c1.1) (by decide) rfl rfl (Nat.le_of_ble_eq_true rfl) c2 (by omega) (by omega) ?_
  show Lw g p e s m below meth c b 696 (lvL g b i) [.long v, .long v] M2
  refine lw_lcmp C dL_law_696 rfl ?_
  refine lw_if_eq C (tgt := 1068) dL_law_697 (by decide) (lg_self v) ?_
  exact kk M2 hj p1 p2
theorem ca_seen (C : LCw g p s m meth c b L xs) (hL : L ≤ 3074) {i : Nat} (hi : i + 6 ≤ L) (k0 : KM M.1 0 11) (k76 : KM M.1 76 12) (b1 : pxZ M.1 + 2 ≤ room_1.cells) (b2 : psZ M.1 + 604 ≤ room_1.slots) (hA : AgI g 3 3 mu_X11_seen mu_X12_seen [.int (xs (i + 1)), .int (xs (i + 2)), .int (xs (i + 3))] M w h) (kk : ∀ M2 : Mem, (∃ S K tx tk tp ts, Jv M2.1 M2.2.1 w h S K tx tk tp ts) → pxZ M2.1 ≤ pxZ M.1 + 2 → psZ M2.1 ≤ psZ M.1 + 604 → Lw g p e s m below meth c b 1068 (lvL g b i) [] M2) : Lw g p e s m below meth c b 702 (lvL g b i) [] M := by
  obtain ⟨v, M1, M2, c1, c2, hj, p1, p2⟩ := hA
  have e1 := px_le M2.1
  have q1 := c2.1.1
  have q2 := c2.1.2.1
  have t1 : mx M2 ≤ pxZ M2.1 := e1.1
  have t2 : ms M2 ≤ psZ M2.1 := e1.2
  refine lw_aload_n C (i := 1) (q := 2) rfl dL_law_702 rfl ?_
  refine lw_arg C (k := 1) (by decide) (by omega) hL dL_law_703 dL_law_704 dL_law_705 dL_law_706 dL_law_707 rfl ?_
  refine lw_arg C (k := 2) (by decide) (by omega) hL dL_law_708 dL_law_709 dL_law_710 dL_law_711 dL_law_712 rfl ?_
  refine lw_arg C (k := 3) (by decide) (by omega) hL dL_law_713 dL_law_714 dL_law_715 dL_law_716 dL_law_717 rfl ?_
  refine lw_callV C (ν := mu_X11_seen) (As := [.int (xs (i + 1)), .int (xs (i + 2)), .int (xs (i + 3))]) (st := []) dL_law_718 rfl ml_L_88 mo_X11_seen mi_X11_seen (ci := 11) rfl rfl k0 (by decide) rfl rfl (by decide) c1 (by omega) (by omega) ?_
  show Lw g p e s m below meth c b 721 (lvL g b i) [.int v] M1
  refine lw_aload_n C (i := 2) (q := 1) rfl dL_law_721 rfl ?_
  refine lw_arg C (k := 1) (by decide) (by omega) hL dL_law_722 dL_law_723 dL_law_724 dL_law_725 dL_law_726 rfl ?_
  refine lw_arg C (k := 2) (by decide) (by omega) hL dL_law_727 dL_law_728 dL_law_729 dL_law_730 dL_law_731 rfl ?_
  refine lw_arg C (k := 3) (by decide) (by omega) hL dL_law_732 dL_law_733 dL_law_734 dL_law_735 dL_law_736 rfl ?_
  refine lw_callV C (ν := mu_X12_seen) (As := [.int (xs (i + 1)), .int (xs (i + 2)), .int (xs (i + 3))]) (st := [.int v]) dL_law_737 rfl ml_L_91 mo_X12_seen mi_X12_seen (ci := 12) rfl rfl (k76.ext c1.1) (by decide) rfl rfl (Nat.le_of_ble_eq_true rfl) c2 (by omega) (by omega) ?_
  show Lw g p e s m below meth c b 740 (lvL g b i) [.int v, .int v] M2
  refine lw_icmp_eq C (tgt := 1068) dL_law_740 (by decide) rfl ?_
  exact kk M2 hj p1 p2
theorem ca_holds (C : LCw g p s m meth c b L xs) (hL : L ≤ 3074) {i : Nat} (hi : i + 6 ≤ L) (k0 : KM M.1 0 11) (k76 : KM M.1 76 12) (b1 : pxZ M.1 + 2 ≤ room_1.cells) (b2 : psZ M.1 + 604 ≤ room_1.slots) (hA : AgI g 7 6 mu_X11_holds mu_X12_holds [] M w h) (kk : ∀ M2 : Mem, (∃ S K tx tk tp ts, Jv M2.1 M2.2.1 w h S K tx tk tp ts) → pxZ M2.1 ≤ pxZ M.1 + 2 → psZ M2.1 ≤ psZ M.1 + 604 → Lw g p e s m below meth c b 1068 (lvL g b i) [] M2) : Lw g p e s m below meth c b 745 (lvL g b i) [] M := by
  obtain ⟨v, M1, M2, c1, c2, hj, p1, p2⟩ := hA
  have e1 := px_le M2.1
  have q1 := c2.1.1
  have q2 := c2.1.2.1
  have t1 : mx M2 ≤ pxZ M2.1 := e1.1
  have t2 : ms M2 ≤ psZ M2.1 := e1.2
  refine lw_aload_n C (i := 1) (q := 2) rfl dL_law_745 rfl ?_
  refine lw_callV C (ν := mu_X11_holds) (As := []) (st := []) dL_law_746 rfl ml_L_92 mo_X11_holds mi_X11_holds (ci := 11) rfl rfl k0 (by decide) rfl rfl (by decide) c1 (by omega) (by omega) ?_
  show Lw g p e s m below meth c b 749 (lvL g b i) [.int v] M1
  refine lw_aload_n C (i := 2) (q := 1) rfl dL_law_749 rfl ?_
  refine lw_callV C (ν := mu_X12_holds) (As := []) (st := [.int v]) dL_law_750 rfl ml_L_95 mo_X12_holds mi_X12_holds (ci := 12) rfl rfl (k76.ext c1.1) (by decide) rfl rfl (Nat.le_of_ble_eq_true rfl) c2 (by omega) (by omega) ?_
  show Lw g p e s m below meth c b 753 (lvL g b i) [.int v, .int v] M2
  refine lw_icmp_eq C (tgt := 1068) dL_law_753 (by decide) rfl ?_
  exact kk M2 hj p1 p2
theorem ca_dark (C : LCw g p s m meth c b L xs) (hL : L ≤ 3074) {i : Nat} (hi : i + 6 ≤ L) (k0 : KM M.1 0 11) (k76 : KM M.1 76 12) (b1 : pxZ M.1 + 2 ≤ room_1.cells) (b2 : psZ M.1 + 604 ≤ room_1.slots) (hA : AgI g 7 7 mu_X11_dark mu_X12_dark [.int (xs (i + 1)), .int (xs (i + 2)), .int (xs (i + 3))] M w h) (kk : ∀ M2 : Mem, (∃ S K tx tk tp ts, Jv M2.1 M2.2.1 w h S K tx tk tp ts) → pxZ M2.1 ≤ pxZ M.1 + 2 → psZ M2.1 ≤ psZ M.1 + 604 → Lw g p e s m below meth c b 1068 (lvL g b i) [] M2) : Lw g p e s m below meth c b 758 (lvL g b i) [] M := by
  obtain ⟨v, M1, M2, c1, c2, hj, p1, p2⟩ := hA
  have e1 := px_le M2.1
  have q1 := c2.1.1
  have q2 := c2.1.2.1
  have t1 : mx M2 ≤ pxZ M2.1 := e1.1
  have t2 : ms M2 ≤ psZ M2.1 := e1.2
  refine lw_aload_n C (i := 1) (q := 2) rfl dL_law_758 rfl ?_
  refine lw_arg C (k := 1) (by decide) (by omega) hL dL_law_759 dL_law_760 dL_law_761 dL_law_762 dL_law_763 rfl ?_
  refine lw_arg C (k := 2) (by decide) (by omega) hL dL_law_764 dL_law_765 dL_law_766 dL_law_767 dL_law_768 rfl ?_
  refine lw_arg C (k := 3) (by decide) (by omega) hL dL_law_769 dL_law_770 dL_law_771 dL_law_772 dL_law_773 rfl ?_
  refine lw_callV C (ν := mu_X11_dark) (As := [.int (xs (i + 1)), .int (xs (i + 2)), .int (xs (i + 3))]) (st := []) dL_law_774 rfl ml_L_96 mo_X11_dark mi_X11_dark (ci := 11) rfl rfl k0 (by decide) rfl rfl (by decide) c1 (by omega) (by omega) ?_
  show Lw g p e s m below meth c b 777 (lvL g b i) [.int v] M1
  refine lw_aload_n C (i := 2) (q := 1) rfl dL_law_777 rfl ?_
  refine lw_arg C (k := 1) (by decide) (by omega) hL dL_law_778 dL_law_779 dL_law_780 dL_law_781 dL_law_782 rfl ?_
  refine lw_arg C (k := 2) (by decide) (by omega) hL dL_law_783 dL_law_784 dL_law_785 dL_law_786 dL_law_787 rfl ?_
  refine lw_arg C (k := 3) (by decide) (by omega) hL dL_law_788 dL_law_789 dL_law_790 dL_law_791 dL_law_792 rfl ?_
  refine lw_callV C (ν := mu_X12_dark) (As := [.int (xs (i + 1)), .int (xs (i + 2)), .int (xs (i + 3))]) (st := [.int v]) dL_law_793 rfl ml_L_99 mo_X12_dark mi_X12_dark (ci := 12) rfl rfl (k76.ext c1.1) (by decide) rfl rfl (Nat.le_of_ble_eq_true rfl) c2 (by omega) (by omega) ?_
  show Lw g p e s m below meth c b 796 (lvL g b i) [.int v, .int v] M2
  refine lw_icmp_eq C (tgt := 1068) dL_law_796 (by decide) rfl ?_
  exact kk M2 hj p1 p2
theorem ca_rider (C : LCw g p s m meth c b L xs) (hL : L ≤ 3074) {i : Nat} (hi : i + 6 ≤ L) (k0 : KM M.1 0 11) (k76 : KM M.1 76 12) (b1 : pxZ M.1 + 2 ≤ room_1.cells) (b2 : psZ M.1 + 604 ≤ room_1.slots) (hA : AgI g 3 2 mu_X11_rider mu_X12_rider [.int (xs (i + 1))] M w h) (kk : ∀ M2 : Mem, (∃ S K tx tk tp ts, Jv M2.1 M2.2.1 w h S K tx tk tp ts) → pxZ M2.1 ≤ pxZ M.1 + 2 → psZ M2.1 ≤ psZ M.1 + 604 → Lw g p e s m below meth c b 1068 (lvL g b i) [] M2) : Lw g p e s m below meth c b 801 (lvL g b i) [] M := by
  obtain ⟨v, M1, M2, c1, c2, hj, p1, p2⟩ := hA
  have e1 := px_le M2.1
  have q1 := c2.1.1
  have q2 := c2.1.2.1
  have t1 : mx M2 ≤ pxZ M2.1 := e1.1
  have t2 : ms M2 ≤ psZ M2.1 := e1.2
  refine lw_aload_n C (i := 1) (q := 2) rfl dL_law_801 rfl ?_
  refine lw_arg C (k := 1) (by decide) (by omega) hL dL_law_802 dL_law_803 dL_law_804 dL_law_805 dL_law_806 rfl ?_
  refine lw_callV C (ν := mu_X11_rider) (As := [.int (xs (i + 1))]) (st := []) dL_law_807 rfl ml_L_100 mo_X11_rider mi_X11_rider (ci := 11) rfl rfl k0 (by decide) rfl rfl (by decide) c1 (by omega) (by omega) ?_
  show Lw g p e s m below meth c b 810 (lvL g b i) [.int v] M1
  refine lw_aload_n C (i := 2) (q := 1) rfl dL_law_810 rfl ?_
  refine lw_arg C (k := 1) (by decide) (by omega) hL dL_law_811 dL_law_812 dL_law_813 dL_law_814 dL_law_815 rfl ?_
  refine lw_callV C (ν := mu_X12_rider) (As := [.int (xs (i + 1))]) (st := [.int v]) dL_law_816 rfl ml_L_103 mo_X12_rider mi_X12_rider (ci := 12) rfl rfl (k76.ext c1.1) (by decide) rfl rfl (Nat.le_of_ble_eq_true rfl) c2 (by omega) (by omega) ?_
  show Lw g p e s m below meth c b 819 (lvL g b i) [.int v, .int v] M2
  refine lw_icmp_eq C (tgt := 1068) dL_law_819 (by decide) rfl ?_
  exact kk M2 hj p1 p2
theorem ca_carrier (C : LCw g p s m meth c b L xs) (hL : L ≤ 3074) {i : Nat} (hi : i + 6 ≤ L) (k0 : KM M.1 0 11) (k76 : KM M.1 76 12) (b1 : pxZ M.1 + 2 ≤ room_1.cells) (b2 : psZ M.1 + 604 ≤ room_1.slots) (hA : AgI g 3 2 mu_X11_carrier mu_X12_carrier [.int (xs (i + 1))] M w h) (kk : ∀ M2 : Mem, (∃ S K tx tk tp ts, Jv M2.1 M2.2.1 w h S K tx tk tp ts) → pxZ M2.1 ≤ pxZ M.1 + 2 → psZ M2.1 ≤ psZ M.1 + 604 → Lw g p e s m below meth c b 1068 (lvL g b i) [] M2) : Lw g p e s m below meth c b 824 (lvL g b i) [] M := by
  obtain ⟨v, M1, M2, c1, c2, hj, p1, p2⟩ := hA
  have e1 := px_le M2.1
  have q1 := c2.1.1
  have q2 := c2.1.2.1
  have t1 : mx M2 ≤ pxZ M2.1 := e1.1
  have t2 : ms M2 ≤ psZ M2.1 := e1.2
  refine lw_aload_n C (i := 1) (q := 2) rfl dL_law_824 rfl ?_
  refine lw_arg C (k := 1) (by decide) (by omega) hL dL_law_825 dL_law_826 dL_law_827 dL_law_828 dL_law_829 rfl ?_
  refine lw_callV C (ν := mu_X11_carrier) (As := [.int (xs (i + 1))]) (st := []) dL_law_830 rfl ml_L_104 mo_X11_carrier mi_X11_carrier (ci := 11) rfl rfl k0 (by decide) rfl rfl (by decide) c1 (by omega) (by omega) ?_
  show Lw g p e s m below meth c b 833 (lvL g b i) [.int v] M1
  refine lw_aload_n C (i := 2) (q := 1) rfl dL_law_833 rfl ?_
  refine lw_arg C (k := 1) (by decide) (by omega) hL dL_law_834 dL_law_835 dL_law_836 dL_law_837 dL_law_838 rfl ?_
  refine lw_callV C (ν := mu_X12_carrier) (As := [.int (xs (i + 1))]) (st := [.int v]) dL_law_839 rfl ml_L_107 mo_X12_carrier mi_X12_carrier (ci := 12) rfl rfl (k76.ext c1.1) (by decide) rfl rfl (Nat.le_of_ble_eq_true rfl) c2 (by omega) (by omega) ?_
  show Lw g p e s m below meth c b 842 (lvL g b i) [.int v, .int v] M2
  refine lw_icmp_eq C (tgt := 1068) dL_law_842 (by decide) rfl ?_
  exact kk M2 hj p1 p2
theorem ca_wed (C : LCw g p s m meth c b L xs) (hL : L ≤ 3074) {i : Nat} (hi : i + 6 ≤ L) (k0 : KM M.1 0 11) (k76 : KM M.1 76 12) (b1 : pxZ M.1 + 2 ≤ room_1.cells) (b2 : psZ M.1 + 604 ≤ room_1.slots) (hA : AgI g 7 5 mu_X11_wed mu_X12_wed [.int (xs (i + 1)), .int (xs (i + 2)), .int (xs (i + 3))] M w h) (kk : ∀ M2 : Mem, (∃ S K tx tk tp ts, Jv M2.1 M2.2.1 w h S K tx tk tp ts) → pxZ M2.1 ≤ pxZ M.1 + 2 → psZ M2.1 ≤ psZ M.1 + 604 → Lw g p e s m below meth c b 1068 (lvL g b i) [] M2) : Lw g p e s m below meth c b 847 (lvL g b i) [] M := by
  obtain ⟨v, M1, M2, c1, c2, hj, p1, p2⟩ := hA
  have e1 := px_le M2.1
  have q1 := c2.1.1
  have q2 := c2.1.2.1
  have t1 : mx M2 ≤ pxZ M2.1 := e1.1
  have t2 : ms M2 ≤ psZ M2.1 := e1.2
  refine lw_aload_n C (i := 1) (q := 2) rfl dL_law_847 rfl ?_
  refine lw_arg C (k := 1) (by decide) (by omega) hL dL_law_848 dL_law_849 dL_law_850 dL_law_851 dL_law_852 rfl ?_
  refine lw_arg C (k := 2) (by decide) (by omega) hL dL_law_853 dL_law_854 dL_law_855 dL_law_856 dL_law_857 rfl ?_
  refine lw_arg C (k := 3) (by decide) (by omega) hL dL_law_858 dL_law_859 dL_law_860 dL_law_861 dL_law_862 rfl ?_
  refine lw_callV C (ν := mu_X11_wed) (As := [.int (xs (i + 1)), .int (xs (i + 2)), .int (xs (i + 3))]) (st := []) dL_law_863 rfl ml_L_108 mo_X11_wed mi_X11_wed (ci := 11) rfl rfl k0 (by decide) rfl rfl (by decide) c1 (by omega) (by omega) ?_
  show Lw g p e s m below meth c b 866 (lvL g b i) [.int v] M1
  refine lw_aload_n C (i := 2) (q := 1) rfl dL_law_866 rfl ?_
  refine lw_arg C (k := 1) (by decide) (by omega) hL dL_law_867 dL_law_868 dL_law_869 dL_law_870 dL_law_871 rfl ?_
  refine lw_arg C (k := 2) (by decide) (by omega) hL dL_law_872 dL_law_873 dL_law_874 dL_law_875 dL_law_876 rfl ?_
  refine lw_arg C (k := 3) (by decide) (by omega) hL dL_law_877 dL_law_878 dL_law_879 dL_law_880 dL_law_881 rfl ?_
  refine lw_callV C (ν := mu_X12_wed) (As := [.int (xs (i + 1)), .int (xs (i + 2)), .int (xs (i + 3))]) (st := [.int v]) dL_law_882 rfl ml_L_111 mo_X12_wed mi_X12_wed (ci := 12) rfl rfl (k76.ext c1.1) (by decide) rfl rfl (Nat.le_of_ble_eq_true rfl) c2 (by omega) (by omega) ?_
  show Lw g p e s m below meth c b 885 (lvL g b i) [.int v, .int v] M2
  refine lw_icmp_eq C (tgt := 1068) dL_law_885 (by decide) rfl ?_
  exact kk M2 hj p1 p2
theorem ca_crowd (C : LCw g p s m meth c b L xs) (hL : L ≤ 3074) {i : Nat} (hi : i + 6 ≤ L) (k0 : KM M.1 0 11) (k76 : KM M.1 76 12) (b1 : pxZ M.1 + 2 ≤ room_1.cells) (b2 : psZ M.1 + 604 ≤ room_1.slots) (hA : AgI g 8 6 mu_X11_crowd mu_X12_crowd [.int (xs (i + 1))] M w h) (kk : ∀ M2 : Mem, (∃ S K tx tk tp ts, Jv M2.1 M2.2.1 w h S K tx tk tp ts) → pxZ M2.1 ≤ pxZ M.1 + 2 → psZ M2.1 ≤ psZ M.1 + 604 → Lw g p e s m below meth c b 1068 (lvL g b i) [] M2) : Lw g p e s m below meth c b 890 (lvL g b i) [] M := by
  obtain ⟨v, M1, M2, c1, c2, hj, p1, p2⟩ := hA
  have e1 := px_le M2.1
  have q1 := c2.1.1
  have q2 := c2.1.2.1
  have t1 : mx M2 ≤ pxZ M2.1 := e1.1
  have t2 : ms M2 ≤ psZ M2.1 := e1.2
  refine lw_aload_n C (i := 1) (q := 2) rfl dL_law_890 rfl ?_
  refine lw_arg C (k := 1) (by decide) (by omega) hL dL_law_891 dL_law_892 dL_law_893 dL_law_894 dL_law_895 rfl ?_
  refine lw_callV C (ν := mu_X11_crowd) (As := [.int (xs (i + 1))]) (st := []) dL_law_896 rfl ml_L_112 mo_X11_crowd mi_X11_crowd (ci := 11) rfl rfl k0 (by decide) rfl rfl (by decide) c1 (by omega) (by omega) ?_
  show Lw g p e s m below meth c b 899 (lvL g b i) [.int v] M1
  refine lw_aload_n C (i := 2) (q := 1) rfl dL_law_899 rfl ?_
  refine lw_arg C (k := 1) (by decide) (by omega) hL dL_law_900 dL_law_901 dL_law_902 dL_law_903 dL_law_904 rfl ?_
  refine lw_callV C (ν := mu_X12_crowd) (As := [.int (xs (i + 1))]) (st := [.int v]) dL_law_905 rfl ml_L_115 mo_X12_crowd mi_X12_crowd (ci := 12) rfl rfl (k76.ext c1.1) (by decide) rfl rfl (Nat.le_of_ble_eq_true rfl) c2 (by omega) (by omega) ?_
  show Lw g p e s m below meth c b 908 (lvL g b i) [.int v, .int v] M2
  refine lw_icmp_eq C (tgt := 1068) dL_law_908 (by decide) rfl ?_
  exact kk M2 hj p1 p2
theorem ca_chase (C : LCw g p s m meth c b L xs) (hL : L ≤ 3074) {i : Nat} (hi : i + 6 ≤ L) (k0 : KM M.1 0 11) (k76 : KM M.1 76 12) (b1 : pxZ M.1 + 2 ≤ room_1.cells) (b2 : psZ M.1 + 604 ≤ room_1.slots) (hA : AgI g 8 8 mu_X11_chase mu_X12_chase [.int (xs (i + 1)), .int (xs (i + 2)), .int (xs (i + 3)), .int (xs (i + 4))] M w h) (kk : ∀ M2 : Mem, (∃ S K tx tk tp ts, Jv M2.1 M2.2.1 w h S K tx tk tp ts) → pxZ M2.1 ≤ pxZ M.1 + 2 → psZ M2.1 ≤ psZ M.1 + 604 → Lw g p e s m below meth c b 1068 (lvL g b i) [] M2) : Lw g p e s m below meth c b 913 (lvL g b i) [] M := by
  obtain ⟨v, M1, M2, c1, c2, hj, p1, p2⟩ := hA
  have e1 := px_le M2.1
  have q1 := c2.1.1
  have q2 := c2.1.2.1
  have t1 : mx M2 ≤ pxZ M2.1 := e1.1
  have t2 : ms M2 ≤ psZ M2.1 := e1.2
  refine lw_aload_n C (i := 1) (q := 2) rfl dL_law_913 rfl ?_
  refine lw_arg C (k := 1) (by decide) (by omega) hL dL_law_914 dL_law_915 dL_law_916 dL_law_917 dL_law_918 rfl ?_
  refine lw_arg C (k := 2) (by decide) (by omega) hL dL_law_919 dL_law_920 dL_law_921 dL_law_922 dL_law_923 rfl ?_
  refine lw_arg C (k := 3) (by decide) (by omega) hL dL_law_924 dL_law_925 dL_law_926 dL_law_927 dL_law_928 rfl ?_
  refine lw_arg C (k := 4) (by decide) (by omega) hL dL_law_929 dL_law_930 dL_law_931 dL_law_932 dL_law_933 rfl ?_
  refine lw_callV C (ν := mu_X11_chase) (As := [.int (xs (i + 1)), .int (xs (i + 2)), .int (xs (i + 3)), .int (xs (i + 4))]) (st := []) dL_law_934 rfl ml_L_116 mo_X11_chase mi_X11_chase (ci := 11) rfl rfl k0 (by decide) rfl rfl (by decide) c1 (by omega) (by omega) ?_
  show Lw g p e s m below meth c b 937 (lvL g b i) [.int v] M1
  refine lw_aload_n C (i := 2) (q := 1) rfl dL_law_937 rfl ?_
  refine lw_arg C (k := 1) (by decide) (by omega) hL dL_law_938 dL_law_939 dL_law_940 dL_law_941 dL_law_942 rfl ?_
  refine lw_arg C (k := 2) (by decide) (by omega) hL dL_law_943 dL_law_944 dL_law_945 dL_law_946 dL_law_947 rfl ?_
  refine lw_arg C (k := 3) (by decide) (by omega) hL dL_law_948 dL_law_949 dL_law_950 dL_law_951 dL_law_952 rfl ?_
  refine lw_arg C (k := 4) (by decide) (by omega) hL dL_law_953 dL_law_954 dL_law_955 dL_law_956 dL_law_957 rfl ?_
  refine lw_callV C (ν := mu_X12_chase) (As := [.int (xs (i + 1)), .int (xs (i + 2)), .int (xs (i + 3)), .int (xs (i + 4))]) (st := [.int v]) dL_law_958 rfl ml_L_119 mo_X12_chase mi_X12_chase (ci := 12) rfl rfl (k76.ext c1.1) (by decide) rfl rfl (Nat.le_of_ble_eq_true rfl) c2 (by omega) (by omega) ?_
  show Lw g p e s m below meth c b 961 (lvL g b i) [.int v, .int v] M2
  refine lw_icmp_eq C (tgt := 1068) dL_law_961 (by decide) rfl ?_
  exact kk M2 hj p1 p2
theorem ca_hunt (C : LCw g p s m meth c b L xs) (hL : L ≤ 3074) {i : Nat} (hi : i + 6 ≤ L) (k0 : KM M.1 0 11) (k76 : KM M.1 76 12) (b1 : pxZ M.1 + 2 ≤ room_1.cells) (b2 : psZ M.1 + 604 ≤ room_1.slots) (hA : AgI g 8 8 mu_X11_hunt mu_X12_hunt [.int (xs (i + 1)), .int (xs (i + 2)), .int (xs (i + 3)), .int (xs (i + 4))] M w h) (kk : ∀ M2 : Mem, (∃ S K tx tk tp ts, Jv M2.1 M2.2.1 w h S K tx tk tp ts) → pxZ M2.1 ≤ pxZ M.1 + 2 → psZ M2.1 ≤ psZ M.1 + 604 → Lw g p e s m below meth c b 1068 (lvL g b i) [] M2) : Lw g p e s m below meth c b 966 (lvL g b i) [] M := by
  obtain ⟨v, M1, M2, c1, c2, hj, p1, p2⟩ := hA
  have e1 := px_le M2.1
  have q1 := c2.1.1
  have q2 := c2.1.2.1
  have t1 : mx M2 ≤ pxZ M2.1 := e1.1
  have t2 : ms M2 ≤ psZ M2.1 := e1.2
  refine lw_aload_n C (i := 1) (q := 2) rfl dL_law_966 rfl ?_
  refine lw_arg C (k := 1) (by decide) (by omega) hL dL_law_967 dL_law_968 dL_law_969 dL_law_970 dL_law_971 rfl ?_
  refine lw_arg C (k := 2) (by decide) (by omega) hL dL_law_972 dL_law_973 dL_law_974 dL_law_975 dL_law_976 rfl ?_
  refine lw_arg C (k := 3) (by decide) (by omega) hL dL_law_977 dL_law_978 dL_law_979 dL_law_980 dL_law_981 rfl ?_
  refine lw_arg C (k := 4) (by decide) (by omega) hL dL_law_982 dL_law_983 dL_law_984 dL_law_985 dL_law_986 rfl ?_
  refine lw_callV C (ν := mu_X11_hunt) (As := [.int (xs (i + 1)), .int (xs (i + 2)), .int (xs (i + 3)), .int (xs (i + 4))]) (st := []) dL_law_987 rfl ml_L_120 mo_X11_hunt mi_X11_hunt (ci := 11) rfl rfl k0 (by decide) rfl rfl (by decide) c1 (by omega) (by omega) ?_
  show Lw g p e s m below meth c b 990 (lvL g b i) [.int v] M1
  refine lw_aload_n C (i := 2) (q := 1) rfl dL_law_990 rfl ?_
  refine lw_arg C (k := 1) (by decide) (by omega) hL dL_law_991 dL_law_992 dL_law_993 dL_law_994 dL_law_995 rfl ?_
  refine lw_arg C (k := 2) (by decide) (by omega) hL dL_law_996 dL_law_997 dL_law_998 dL_law_999 dL_law_1000 rfl ?_
  refine lw_arg C (k := 3) (by decide) (by omega) hL dL_law_1001 dL_law_1002 dL_law_1003 dL_law_1004 dL_law_1005 rfl ?_
  refine lw_arg C (k := 4) (by decide) (by omega) hL dL_law_1006 dL_law_1007 dL_law_1008 dL_law_1009 dL_law_1010 rfl ?_
  refine lw_callV C (ν := mu_X12_hunt) (As := [.int (xs (i + 1)), .int (xs (i + 2)), .int (xs (i + 3)), .int (xs (i + 4))]) (st := [.int v]) dL_law_1011 rfl ml_L_123 mo_X12_hunt mi_X12_hunt (ci := 12) rfl rfl (k76.ext c1.1) (by decide) rfl rfl (Nat.le_of_ble_eq_true rfl) c2 (by omega) (by omega) ?_
  show Lw g p e s m below meth c b 1014 (lvL g b i) [.int v, .int v] M2
  refine lw_icmp_eq C (tgt := 1068) dL_law_1014 (by decide) rfl ?_
  exact kk M2 hj p1 p2
theorem ca_image (C : LCw g p s m meth c b L xs) (hL : L ≤ 3074) {i : Nat} (hi : i + 6 ≤ L) (k0 : KM M.1 0 11) (k76 : KM M.1 76 12) (b1 : pxZ M.1 + 2 ≤ room_1.cells) (b2 : psZ M.1 + 604 ≤ room_1.slots) (hA : AgI g 4 2 mu_X11_image mu_X12_image [] M w h) (kk : ∀ M2 : Mem, (∃ S K tx tk tp ts, Jv M2.1 M2.2.1 w h S K tx tk tp ts) → pxZ M2.1 ≤ pxZ M.1 + 2 → psZ M2.1 ≤ psZ M.1 + 604 → Lw g p e s m below meth c b 1068 (lvL g b i) [] M2) : Lw g p e s m below meth c b 1019 (lvL g b i) [] M := by
  obtain ⟨v, M1, M2, c1, c2, hj, p1, p2⟩ := hA
  have e1 := px_le M2.1
  have q1 := c2.1.1
  have q2 := c2.1.2.1
  have t1 : mx M2 ≤ pxZ M2.1 := e1.1
  have t2 : ms M2 ≤ psZ M2.1 := e1.2
  refine lw_aload_n C (i := 1) (q := 2) rfl dL_law_1019 rfl ?_
  refine lw_callV C (ν := mu_X11_image) (As := []) (st := []) dL_law_1020 rfl ml_L_124 mo_X11_image mi_X11_image (ci := 11) rfl rfl k0 (by decide) rfl rfl (by decide) c1 (by omega) (by omega) ?_
  show Lw g p e s m below meth c b 1023 (lvL g b i) [.int v] M1
  refine lw_aload_n C (i := 2) (q := 1) rfl dL_law_1023 rfl ?_
  refine lw_callV C (ν := mu_X12_image) (As := []) (st := [.int v]) dL_law_1024 rfl ml_L_127 mo_X12_image mi_X12_image (ci := 12) rfl rfl (k76.ext c1.1) (by decide) rfl rfl (Nat.le_of_ble_eq_true rfl) c2 (by omega) (by omega) ?_
  show Lw g p e s m below meth c b 1027 (lvL g b i) [.int v, .int v] M2
  refine lw_icmp_eq C (tgt := 1068) dL_law_1027 (by decide) rfl ?_
  exact kk M2 hj p1 p2
theorem ca_back (C : LCw g p s m meth c b L xs) (hL : L ≤ 3074) {i : Nat} (hi : i + 6 ≤ L) (k0 : KM M.1 0 11) (k76 : KM M.1 76 12) (b1 : pxZ M.1 + 2 ≤ room_1.cells) (b2 : psZ M.1 + 604 ≤ room_1.slots) (hA : AgI g 4 2 mu_X11_back mu_X12_back [] M w h) (kk : ∀ M2 : Mem, (∃ S K tx tk tp ts, Jv M2.1 M2.2.1 w h S K tx tk tp ts) → pxZ M2.1 ≤ pxZ M.1 + 2 → psZ M2.1 ≤ psZ M.1 + 604 → Lw g p e s m below meth c b 1068 (lvL g b i) [] M2) : Lw g p e s m below meth c b 1032 (lvL g b i) [] M := by
  obtain ⟨v, M1, M2, c1, c2, hj, p1, p2⟩ := hA
  have e1 := px_le M2.1
  have q1 := c2.1.1
  have q2 := c2.1.2.1
  have t1 : mx M2 ≤ pxZ M2.1 := e1.1
  have t2 : ms M2 ≤ psZ M2.1 := e1.2
  refine lw_aload_n C (i := 1) (q := 2) rfl dL_law_1032 rfl ?_
  refine lw_callV C (ν := mu_X11_back) (As := []) (st := []) dL_law_1033 rfl ml_L_128 mo_X11_back mi_X11_back (ci := 11) rfl rfl k0 (by decide) rfl rfl (by decide) c1 (by omega) (by omega) ?_
  show Lw g p e s m below meth c b 1036 (lvL g b i) [.int v] M1
  refine lw_aload_n C (i := 2) (q := 1) rfl dL_law_1036 rfl ?_
  refine lw_callV C (ν := mu_X12_back) (As := []) (st := [.int v]) dL_law_1037 rfl ml_L_131 mo_X12_back mi_X12_back (ci := 12) rfl rfl (k76.ext c1.1) (by decide) rfl rfl (Nat.le_of_ble_eq_true rfl) c2 (by omega) (by omega) ?_
  show Lw g p e s m below meth c b 1040 (lvL g b i) [.int v, .int v] M2
  refine lw_icmp_eq C (tgt := 1068) dL_law_1040 (by decide) rfl ?_
  exact kk M2 hj p1 p2
theorem ca_about (C : LCw g p s m meth c b L xs) (hL : L ≤ 3074) {i : Nat} (hi : i + 6 ≤ L) (k0 : KM M.1 0 11) (k76 : KM M.1 76 12) (b1 : pxZ M.1 + 2 ≤ room_1.cells) (b2 : psZ M.1 + 604 ≤ room_1.slots) (hA : AgI g 2 2 mu_X11_about mu_X12_about [.int (xs (i + 1))] M w h) (kk : ∀ M2 : Mem, (∃ S K tx tk tp ts, Jv M2.1 M2.2.1 w h S K tx tk tp ts) → pxZ M2.1 ≤ pxZ M.1 + 2 → psZ M2.1 ≤ psZ M.1 + 604 → Lw g p e s m below meth c b 1068 (lvL g b i) [] M2) : Lw g p e s m below meth c b 1045 (lvL g b i) [] M := by
  obtain ⟨v, M1, M2, c1, c2, hj, p1, p2⟩ := hA
  have e1 := px_le M2.1
  have q1 := c2.1.1
  have q2 := c2.1.2.1
  have t1 : mx M2 ≤ pxZ M2.1 := e1.1
  have t2 : ms M2 ≤ psZ M2.1 := e1.2
  refine lw_aload_n C (i := 1) (q := 2) rfl dL_law_1045 rfl ?_
  refine lw_arg C (k := 1) (by decide) (by omega) hL dL_law_1046 dL_law_1047 dL_law_1048 dL_law_1049 dL_law_1050 rfl ?_
  refine lw_callV C (ν := mu_X11_about) (As := [.int (xs (i + 1))]) (st := []) dL_law_1051 rfl ml_L_132 mo_X11_about mi_X11_about (ci := 11) rfl rfl k0 (by decide) rfl rfl (by decide) c1 (by omega) (by omega) ?_
  show Lw g p e s m below meth c b 1054 (lvL g b i) [.int v] M1
  refine lw_aload_n C (i := 2) (q := 1) rfl dL_law_1054 rfl ?_
  refine lw_arg C (k := 1) (by decide) (by omega) hL dL_law_1055 dL_law_1056 dL_law_1057 dL_law_1058 dL_law_1059 rfl ?_
  refine lw_callV C (ν := mu_X12_about) (As := [.int (xs (i + 1))]) (st := [.int v]) dL_law_1060 rfl ml_L_135 mo_X12_about mi_X12_about (ci := 12) rfl rfl (k76.ext c1.1) (by decide) rfl rfl (Nat.le_of_ble_eq_true rfl) c2 (by omega) (by omega) ?_
  show Lw g p e s m below meth c b 1063 (lvL g b i) [.int v, .int v] M2
  refine lw_icmp_eq C (tgt := 1068) dL_law_1063 (by decide) rfl ?_
  exact kk M2 hj p1 p2
end LAWS
