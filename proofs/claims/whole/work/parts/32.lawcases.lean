/-- two methods, one behind the other, of the class and of the reference: the same answer, and what held holds -/
def am_pr (Inv Inv' : am_h → Prop) (zx zm : Nat) (as : List am_v) : Prop := ∀ h, Inv h → am_S am_P 1600 zx (.inr (.inr 1) :: as) h (fun r h1 => h1.1 = h.1 ∧ am_S am_P 1600 zm (.inr (.inr 174) :: as) h1 (fun r' h2 => r = r' ∧ h2.1 = h.1 ∧ Inv' h2))
theorem am_pr_use {Inv Inv' : am_h → Prop} {zx zm : Nat} {as : List am_v} (q : am_pr Inv Inv' zx zm as) {h : am_h} (hi : Inv h) : ∃ F F2 r h1 h2, am_call am_P 1600 F zx (.inr (.inr 1) :: as) h = some (r, h1) ∧ h1.1 = h.1 ∧ am_call am_P 1600 F2 zm (.inr (.inr 174) :: as) h1 = some (r, h2) ∧ h2.1 = h.1 ∧ Inv' h2 := by
  obtain ⟨F, r, h1, e1, g1, F2, r', h2, e2, rfl, g2, i2⟩ := q h hi
  exact ⟨F, F2, r, h1, h2, e1, g1, e2, g2, i2⟩
/-- what the heap's plan must be: the class's object is the first cell, the reference's the 174th -/
def am_plan (Inv : am_h → Prop) : Prop := ∀ h, Inv h → 174 ≤ h.1.1 ∧ (h.1.2.1 0).1 = 16 ∧ (h.1.2.1 173).1 = 17
theorem lw_b01 (v : Int32) (hv : ¬ v = 0) : True := trivial
section LW32
variable {p : Program} {l : Launch} {e : Env} {s : State} {m : MethodId} {below : List Frame} {meth : Method} {c : Code} {b L : Nat} {xs : Nat → Int32} {D : va_G} {cs : Nat → ClassId} {ad : List Nat} {cls : Array Slot} {i : Nat} {Inv Inv' : am_h → Prop}
/-- the place behind each case -/
abbrev lw_E (p : Program) (l : Launch) (e : Env) (s : State) (m : MethodId) (below : List Frame) (meth : Method) (c : Code) (b : Nat) (D : va_G) (cs : Nat → ClassId) (ad : List Nat) (cls : Array Slot) (Inv : am_h → Prop) (pc : Nat) (st : List Value) : Prop := ∀ (h : am_h) (H : Heap) (locs : List Loc), Inv h → am_RP D am_cl am_ft cs (fun q => s.heap.size ≤ q) ad h H → va_S (fun q => s.heap.size ≤ q) s.heap H locs → W p l e room_1 s m #[Value.ref b] below meth c H locs 600000 7302250 (lw_Z below #[Value.ref b] s) (F0 m pc cls st)
/-- what is fixed in the law's loop -/
abbrev lw_F (p : Program) (s : State) (m : MethodId) (meth : Method) (c : Code) (b L : Nat) (xs : Nat → Int32) (D : va_G) (cs : Nat → ClassId) (ad : List Nat) (cls : Array Slot) (i : Nat) : Prop := p.tables.exec = Jvm.exec ∧ c.code = code ∧ c.maxLocals = 4 ∧ s.vm.findClass R_law = some m.cls ∧ (∀ w ∈ am_Ts, w.before #[Value.ref b] s = true) ∧ am_K D am_cl cs am_C3 am_C4 am_nw s ∧ va_X b L xs s s.heap ∧ b < s.heap.size ∧ cls.size = 4 ∧ cls[0]? = some (.val (.ref b)) ∧ cls[1]? = some (.val (.ref (ad.getD 0 0))) ∧ cls[2]? = some (.val (.ref (ad.getD 173 0))) ∧ cls[3]? = some (.val (.int (Int32.ofInt (i : Int)))) ∧ i + 6 ≤ L ∧ L ≤ 3072
theorem lw_c0 (Fx : lw_F p s m meth c b L xs D cs ad cls i) (hpl : am_plan Inv) (hpr : am_pr Inv Inv' 167 223 []) (hE : lw_E p l e s m below meth c b D cs ad cls Inv' 1381 []) : lw_E p l e s m below meth c b D cs ad cls Inv 196 [] := by
  obtain ⟨hx, hb, hml, hown, hts, hK, hX, hbl, hsz, h0, h1, h2, h3, hi6, hL⟩ := Fx
  intro h H locs hi hR hS
  obtain ⟨F, F2, r, g1, g2, e1, q1, e2, q2, i2⟩ := am_pr_use hpr hi
  obtain ⟨n1, n2, n3⟩ := hpl h hi
  have hbA : ¬ (fun q : Nat => s.heap.size ≤ q) b := Nat.not_le.mpr hbl
  refine lv_aload_n hx hb dl_196 rfl h1 ?_
  refine lw_call (A := fun q => s.heap.size ≤ q) (h := h) (z := 167) (idx := 13) (pl := 796) (k := 0) (ci := 11) (As := []) (rest := []) hx hb hml hown hts hK (fun _ q => q) hR hS hsz am_P_167 am_mi_167 (List.mem_of_getElem? (i := 2) rfl) (by omega) n2 rfl (fun v hv => by cases hv) (by decide) e1 (by rw [q1]) dl_197 (fun H locs hR hS _ => ?_)
  refine lv_aload_n hx hb dl_200 rfl h2 ?_
  refine lw_call (A := fun q => s.heap.size ≤ q) (h := g1) (z := 223) (idx := 17) (pl := 1898) (k := 173) (ci := 12) (As := []) (rest := ((am_rvv ad 1 r).toList ++ [])) hx hb hml hown hts hK (fun _ q => q) hR hS hsz am_P_223 am_mi_223 (List.mem_of_getElem? (i := 3) rfl) (by rw [q1]; omega) (by rw [q1]; exact n3) rfl (fun v hv => by cases hv) (by show _ ≤ 8; simp [am_rvv, Value.category]) e2 (by rw [q2, q1]) dl_201 (fun H locs hR hS _ => ?_)
  exact lv_icmp_eq (tgt := 1381) hx hb dl_204 (by decide) (fun _ => hE g2 H locs i2 hR hS) (fun q => absurd rfl q)
theorem lw_c1 (Fx : lw_F p s m meth c b L xs D cs ad cls i) (hpl : am_plan Inv) (hpr : am_pr Inv Inv' 168 239 [.inl (xs (i + 1)).toInt, .inl (xs (i + 2)).toInt, .inl (xs (i + 3)).toInt, .inl (xs (i + 4)).toInt, .inl (xs (i + 5)).toInt]) (hE : lw_E p l e s m below meth c b D cs ad cls Inv' 1381 []) : lw_E p l e s m below meth c b D cs ad cls Inv 209 [] := by
  obtain ⟨hx, hb, hml, hown, hts, hK, hX, hbl, hsz, h0, h1, h2, h3, hi6, hL⟩ := Fx
  intro h H locs hi hR hS
  obtain ⟨F, F2, r, g1, g2, e1, q1, e2, q2, i2⟩ := am_pr_use hpr hi
  obtain ⟨n1, n2, n3⟩ := hpl h hi
  have hbA : ¬ (fun q : Nat => s.heap.size ≤ q) b := Nat.not_le.mpr hbl
  refine lv_aload_n hx hb dl_209 rfl h1 ?_
  refine lw_arg 1 ad hx hb hX hbl hbA hS h0 h3 hi6 hL (by omega) rfl dl_210 dl_211 dl_212 dl_213 dl_214 ?_
  refine lw_arg 2 ad hx hb hX hbl hbA hS h0 h3 hi6 hL (by omega) rfl dl_215 dl_216 dl_217 dl_218 dl_219 ?_
  refine lw_arg 3 ad hx hb hX hbl hbA hS h0 h3 hi6 hL (by omega) rfl dl_220 dl_221 dl_222 dl_223 dl_224 ?_
  refine lw_arg 4 ad hx hb hX hbl hbA hS h0 h3 hi6 hL (by omega) rfl dl_225 dl_226 dl_227 dl_228 dl_229 ?_
  refine lw_arg 5 ad hx hb hX hbl hbA hS h0 h3 hi6 hL (by omega) rfl dl_230 dl_231 dl_232 dl_233 dl_234 ?_
  refine lw_call (A := fun q => s.heap.size ≤ q) (h := h) (z := 168) (idx := 18) (pl := 800) (k := 0) (ci := 11) (As := [.inl (xs (i + 1)).toInt, .inl (xs (i + 2)).toInt, .inl (xs (i + 3)).toInt, .inl (xs (i + 4)).toInt, .inl (xs (i + 5)).toInt]) (rest := []) hx hb hml hown hts hK (fun _ q => q) hR hS hsz am_P_168 am_mi_168 (List.mem_of_getElem? (i := 4) rfl) (by omega) n2 rfl (fun v hv => by simp only [List.mem_cons, List.mem_nil_iff, or_false] at hv; rcases hv with rfl | rfl | rfl | rfl | rfl <;> first | exact am_r32 _ | exact am_0 | (show am_i32 1; unfold am_i32; omega)) (by decide) e1 (by rw [q1]) dl_235 (fun H locs hR hS _ => ?_)
  refine lv_aload_n hx hb dl_238 rfl h2 ?_
  refine lw_arg 1 ad hx hb hX hbl hbA hS h0 h3 hi6 hL (by omega) rfl dl_239 dl_240 dl_241 dl_242 dl_243 ?_
  refine lw_arg 2 ad hx hb hX hbl hbA hS h0 h3 hi6 hL (by omega) rfl dl_244 dl_245 dl_246 dl_247 dl_248 ?_
  refine lw_arg 3 ad hx hb hX hbl hbA hS h0 h3 hi6 hL (by omega) rfl dl_249 dl_250 dl_251 dl_252 dl_253 ?_
  refine lw_arg 4 ad hx hb hX hbl hbA hS h0 h3 hi6 hL (by omega) rfl dl_254 dl_255 dl_256 dl_257 dl_258 ?_
  refine lw_arg 5 ad hx hb hX hbl hbA hS h0 h3 hi6 hL (by omega) rfl dl_259 dl_260 dl_261 dl_262 dl_263 ?_
  refine lw_call (A := fun q => s.heap.size ≤ q) (h := g1) (z := 239) (idx := 22) (pl := 1902) (k := 173) (ci := 12) (As := [.inl (xs (i + 1)).toInt, .inl (xs (i + 2)).toInt, .inl (xs (i + 3)).toInt, .inl (xs (i + 4)).toInt, .inl (xs (i + 5)).toInt]) (rest := ((am_rvv ad 1 r).toList ++ [])) hx hb hml hown hts hK (fun _ q => q) hR hS hsz am_P_239 am_mi_239 (List.mem_of_getElem? (i := 5) rfl) (by rw [q1]; omega) (by rw [q1]; exact n3) rfl (fun v hv => by simp only [List.mem_cons, List.mem_nil_iff, or_false] at hv; rcases hv with rfl | rfl | rfl | rfl | rfl <;> first | exact am_r32 _ | exact am_0 | (show am_i32 1; unfold am_i32; omega)) (by show _ ≤ 8; simp [am_rvv, Value.category]) e2 (by rw [q2, q1]) dl_264 (fun H locs hR hS _ => ?_)
  exact lv_icmp_eq (tgt := 1381) hx hb dl_267 (by decide) (fun _ => hE g2 H locs i2 hR hS) (fun q => absurd rfl q)
theorem lw_c2 (Fx : lw_F p s m meth c b L xs D cs ad cls i) (hpl : am_plan Inv) (hpr : am_pr Inv Inv' 169 253 [.inl (xs (i + 1)).toInt]) (hE : lw_E p l e s m below meth c b D cs ad cls Inv' 1381 []) : lw_E p l e s m below meth c b D cs ad cls Inv 272 [] := by
  obtain ⟨hx, hb, hml, hown, hts, hK, hX, hbl, hsz, h0, h1, h2, h3, hi6, hL⟩ := Fx
  intro h H locs hi hR hS
  obtain ⟨F, F2, r, g1, g2, e1, q1, e2, q2, i2⟩ := am_pr_use hpr hi
  obtain ⟨n1, n2, n3⟩ := hpl h hi
  have hbA : ¬ (fun q : Nat => s.heap.size ≤ q) b := Nat.not_le.mpr hbl
  refine lv_aload_n hx hb dl_272 rfl h1 ?_
  refine lw_arg 1 ad hx hb hX hbl hbA hS h0 h3 hi6 hL (by omega) rfl dl_273 dl_274 dl_275 dl_276 dl_277 ?_
  refine lw_call (A := fun q => s.heap.size ≤ q) (h := h) (z := 169) (idx := 23) (pl := 808) (k := 0) (ci := 11) (As := [.inl (xs (i + 1)).toInt]) (rest := []) hx hb hml hown hts hK (fun _ q => q) hR hS hsz am_P_169 am_mi_169 (List.mem_of_getElem? (i := 6) rfl) (by omega) n2 rfl (fun v hv => by simp only [List.mem_cons, List.mem_nil_iff, or_false] at hv; rcases hv with rfl <;> first | exact am_r32 _ | exact am_0 | (show am_i32 1; unfold am_i32; omega)) (by decide) e1 (by rw [q1]) dl_278 (fun H locs hR hS _ => ?_)
  refine lv_aload_n hx hb dl_281 rfl h2 ?_
  refine lw_arg 1 ad hx hb hX hbl hbA hS h0 h3 hi6 hL (by omega) rfl dl_282 dl_283 dl_284 dl_285 dl_286 ?_
  refine lw_call (A := fun q => s.heap.size ≤ q) (h := g1) (z := 253) (idx := 27) (pl := 1921) (k := 173) (ci := 12) (As := [.inl (xs (i + 1)).toInt]) (rest := ((am_rvv ad 1 r).toList ++ [])) hx hb hml hown hts hK (fun _ q => q) hR hS hsz am_P_253 am_mi_253 (List.mem_of_getElem? (i := 7) rfl) (by rw [q1]; omega) (by rw [q1]; exact n3) rfl (fun v hv => by simp only [List.mem_cons, List.mem_nil_iff, or_false] at hv; rcases hv with rfl <;> first | exact am_r32 _ | exact am_0 | (show am_i32 1; unfold am_i32; omega)) (by show _ ≤ 8; simp [am_rvv, Value.category]) e2 (by rw [q2, q1]) dl_287 (fun H locs hR hS _ => ?_)
  exact lv_icmp_eq (tgt := 1381) hx hb dl_290 (by decide) (fun _ => hE g2 H locs i2 hR hS) (fun q => absurd rfl q)
theorem lw_c3 (Fx : lw_F p s m meth c b L xs D cs ad cls i) (hpl : am_plan Inv) (hpr : am_pr Inv Inv' 170 254 [.inl (xs (i + 1)).toInt]) (hE : lw_E p l e s m below meth c b D cs ad cls Inv' 1381 []) : lw_E p l e s m below meth c b D cs ad cls Inv 295 [] := by
  obtain ⟨hx, hb, hml, hown, hts, hK, hX, hbl, hsz, h0, h1, h2, h3, hi6, hL⟩ := Fx
  intro h H locs hi hR hS
  obtain ⟨F, F2, r, g1, g2, e1, q1, e2, q2, i2⟩ := am_pr_use hpr hi
  obtain ⟨n1, n2, n3⟩ := hpl h hi
  have hbA : ¬ (fun q : Nat => s.heap.size ≤ q) b := Nat.not_le.mpr hbl
  refine lv_aload_n hx hb dl_295 rfl h1 ?_
  refine lw_arg 1 ad hx hb hX hbl hbA hS h0 h3 hi6 hL (by omega) rfl dl_296 dl_297 dl_298 dl_299 dl_300 ?_
  refine lw_call (A := fun q => s.heap.size ≤ q) (h := h) (z := 170) (idx := 28) (pl := 920) (k := 0) (ci := 11) (As := [.inl (xs (i + 1)).toInt]) (rest := []) hx hb hml hown hts hK (fun _ q => q) hR hS hsz am_P_170 am_mi_170 (List.mem_of_getElem? (i := 8) rfl) (by omega) n2 rfl (fun v hv => by simp only [List.mem_cons, List.mem_nil_iff, or_false] at hv; rcases hv with rfl <;> first | exact am_r32 _ | exact am_0 | (show am_i32 1; unfold am_i32; omega)) (by decide) e1 (by rw [q1]) dl_301 (fun H locs hR hS _ => ?_)
  refine lv_aload_n hx hb dl_304 rfl h2 ?_
  refine lw_arg 1 ad hx hb hX hbl hbA hS h0 h3 hi6 hL (by omega) rfl dl_305 dl_306 dl_307 dl_308 dl_309 ?_
  refine lw_call (A := fun q => s.heap.size ≤ q) (h := g1) (z := 254) (idx := 31) (pl := 1985) (k := 173) (ci := 12) (As := [.inl (xs (i + 1)).toInt]) (rest := ((am_rvv ad 1 r).toList ++ [])) hx hb hml hown hts hK (fun _ q => q) hR hS hsz am_P_254 am_mi_254 (List.mem_of_getElem? (i := 9) rfl) (by rw [q1]; omega) (by rw [q1]; exact n3) rfl (fun v hv => by simp only [List.mem_cons, List.mem_nil_iff, or_false] at hv; rcases hv with rfl <;> first | exact am_r32 _ | exact am_0 | (show am_i32 1; unfold am_i32; omega)) (by show _ ≤ 8; simp [am_rvv, Value.category]) e2 (by rw [q2, q1]) dl_310 (fun H locs hR hS _ => ?_)
  exact lv_icmp_eq (tgt := 1381) hx hb dl_313 (by decide) (fun _ => hE g2 H locs i2 hR hS) (fun q => absurd rfl q)
theorem lw_c4 (Fx : lw_F p s m meth c b L xs D cs ad cls i) (hpl : am_plan Inv) (hpr : am_pr Inv Inv' 171 255 [.inl (xs (i + 1)).toInt, .inl (if xs (i + 2) = 0 then 0 else 1)]) (hE : lw_E p l e s m below meth c b D cs ad cls Inv' 1381 []) : lw_E p l e s m below meth c b D cs ad cls Inv 318 [] := by
  obtain ⟨hx, hb, hml, hown, hts, hK, hX, hbl, hsz, h0, h1, h2, h3, hi6, hL⟩ := Fx
  intro h H locs hi hR hS
  obtain ⟨F, F2, r, g1, g2, e1, q1, e2, q2, i2⟩ := am_pr_use hpr hi
  obtain ⟨n1, n2, n3⟩ := hpl h hi
  have hbA : ¬ (fun q : Nat => s.heap.size ≤ q) b := Nat.not_le.mpr hbl
  by_cases b2 : xs (i + 2) = 0
  · rw [if_pos b2] at e1 e2
    refine lv_aload_n hx hb dl_318 rfl h1 ?_
    refine lw_arg 1 ad hx hb hX hbl hbA hS h0 h3 hi6 hL (by omega) rfl dl_319 dl_320 dl_321 dl_322 dl_323 ?_
    refine lw_arg 2 ad hx hb hX hbl hbA hS h0 h3 hi6 hL (by omega) rfl dl_324 dl_325 dl_326 dl_327 dl_328 ?_
    refine lv_if_eq (tgt := 336) hx hb dl_329 (by decide) (fun _ => ?_) (fun q => absurd ((Int32.ofInt_toInt _).trans b2) q)
    refine lv_iconst (v := Int32.ofInt 0) hx hb dl_336 rfl ?_
    refine lw_call (A := fun q => s.heap.size ≤ q) (h := h) (z := 171) (idx := 32) (pl := 924) (k := 0) (ci := 11) (As := [.inl (xs (i + 1)).toInt, .inl 0]) (rest := []) hx hb hml hown hts hK (fun _ q => q) hR hS hsz am_P_171 am_mi_171 (List.mem_of_getElem? (i := 10) rfl) (by omega) n2 rfl (fun v hv => by simp only [List.mem_cons, List.mem_nil_iff, or_false] at hv; rcases hv with rfl | rfl <;> first | exact am_r32 _ | exact am_0 | (show am_i32 1; unfold am_i32; omega)) (by decide) e1 (by rw [q1]) dl_337 (fun H locs hR hS _ => ?_)
    refine lv_aload_n hx hb dl_340 rfl h2 ?_
    refine lw_arg 1 ad hx hb hX hbl hbA hS h0 h3 hi6 hL (by omega) rfl dl_341 dl_342 dl_343 dl_344 dl_345 ?_
    refine lw_arg 2 ad hx hb hX hbl hbA hS h0 h3 hi6 hL (by omega) rfl dl_346 dl_347 dl_348 dl_349 dl_350 ?_
    refine lv_if_eq (tgt := 358) hx hb dl_351 (by decide) (fun _ => ?_) (fun q => absurd ((Int32.ofInt_toInt _).trans b2) q)
    refine lv_iconst (v := Int32.ofInt 0) hx hb dl_358 rfl ?_
    refine lw_call (A := fun q => s.heap.size ≤ q) (h := g1) (z := 255) (idx := 36) (pl := 1989) (k := 173) (ci := 12) (As := [.inl (xs (i + 1)).toInt, .inl 0]) (rest := ((am_rvv ad 1 r).toList ++ [])) hx hb hml hown hts hK (fun _ q => q) hR hS hsz am_P_255 am_mi_255 (List.mem_of_getElem? (i := 11) rfl) (by rw [q1]; omega) (by rw [q1]; exact n3) rfl (fun v hv => by simp only [List.mem_cons, List.mem_nil_iff, or_false] at hv; rcases hv with rfl | rfl <;> first | exact am_r32 _ | exact am_0 | (show am_i32 1; unfold am_i32; omega)) (by show _ ≤ 8; simp [am_rvv, Value.category]) e2 (by rw [q2, q1]) dl_359 (fun H locs hR hS _ => ?_)
    exact lv_icmp_eq (tgt := 1381) hx hb dl_362 (by decide) (fun _ => hE g2 H locs i2 hR hS) (fun q => absurd rfl q)
  · rw [if_neg b2] at e1 e2
    refine lv_aload_n hx hb dl_318 rfl h1 ?_
    refine lw_arg 1 ad hx hb hX hbl hbA hS h0 h3 hi6 hL (by omega) rfl dl_319 dl_320 dl_321 dl_322 dl_323 ?_
    refine lw_arg 2 ad hx hb hX hbl hbA hS h0 h3 hi6 hL (by omega) rfl dl_324 dl_325 dl_326 dl_327 dl_328 ?_
    refine lv_if_eq (tgt := 336) hx hb dl_329 (by decide) (fun q => absurd ((Int32.ofInt_toInt _).symm.trans q) b2) (fun _ => ?_)
    refine lv_iconst (v := Int32.ofInt 1) hx hb dl_332 rfl ?_
    refine lv_goto (tgt := 337) hx hb dl_333 (by decide) ?_
    refine lw_call (A := fun q => s.heap.size ≤ q) (h := h) (z := 171) (idx := 32) (pl := 924) (k := 0) (ci := 11) (As := [.inl (xs (i + 1)).toInt, .inl 1]) (rest := []) hx hb hml hown hts hK (fun _ q => q) hR hS hsz am_P_171 am_mi_171 (List.mem_of_getElem? (i := 10) rfl) (by omega) n2 rfl (fun v hv => by simp only [List.mem_cons, List.mem_nil_iff, or_false] at hv; rcases hv with rfl | rfl <;> first | exact am_r32 _ | exact am_0 | (show am_i32 1; unfold am_i32; omega)) (by decide) e1 (by rw [q1]) dl_337 (fun H locs hR hS _ => ?_)
    refine lv_aload_n hx hb dl_340 rfl h2 ?_
    refine lw_arg 1 ad hx hb hX hbl hbA hS h0 h3 hi6 hL (by omega) rfl dl_341 dl_342 dl_343 dl_344 dl_345 ?_
    refine lw_arg 2 ad hx hb hX hbl hbA hS h0 h3 hi6 hL (by omega) rfl dl_346 dl_347 dl_348 dl_349 dl_350 ?_
    refine lv_if_eq (tgt := 358) hx hb dl_351 (by decide) (fun q => absurd ((Int32.ofInt_toInt _).symm.trans q) b2) (fun _ => ?_)
    refine lv_iconst (v := Int32.ofInt 1) hx hb dl_354 rfl ?_
    refine lv_goto (tgt := 359) hx hb dl_355 (by decide) ?_
    refine lw_call (A := fun q => s.heap.size ≤ q) (h := g1) (z := 255) (idx := 36) (pl := 1989) (k := 173) (ci := 12) (As := [.inl (xs (i + 1)).toInt, .inl 1]) (rest := ((am_rvv ad 1 r).toList ++ [])) hx hb hml hown hts hK (fun _ q => q) hR hS hsz am_P_255 am_mi_255 (List.mem_of_getElem? (i := 11) rfl) (by rw [q1]; omega) (by rw [q1]; exact n3) rfl (fun v hv => by simp only [List.mem_cons, List.mem_nil_iff, or_false] at hv; rcases hv with rfl | rfl <;> first | exact am_r32 _ | exact am_0 | (show am_i32 1; unfold am_i32; omega)) (by show _ ≤ 8; simp [am_rvv, Value.category]) e2 (by rw [q2, q1]) dl_359 (fun H locs hR hS _ => ?_)
    exact lv_icmp_eq (tgt := 1381) hx hb dl_362 (by decide) (fun _ => hE g2 H locs i2 hR hS) (fun q => absurd rfl q)
theorem lw_c5 (Fx : lw_F p s m meth c b L xs D cs ad cls i) (hpl : am_plan Inv) (hpr : am_pr Inv Inv' 172 256 [.inl (xs (i + 1)).toInt, .inl (xs (i + 2)).toInt]) (hE : lw_E p l e s m below meth c b D cs ad cls Inv' 1381 []) : lw_E p l e s m below meth c b D cs ad cls Inv 367 [] := by
  obtain ⟨hx, hb, hml, hown, hts, hK, hX, hbl, hsz, h0, h1, h2, h3, hi6, hL⟩ := Fx
  intro h H locs hi hR hS
  obtain ⟨F, F2, r, g1, g2, e1, q1, e2, q2, i2⟩ := am_pr_use hpr hi
  obtain ⟨n1, n2, n3⟩ := hpl h hi
  have hbA : ¬ (fun q : Nat => s.heap.size ≤ q) b := Nat.not_le.mpr hbl
  refine lv_aload_n hx hb dl_367 rfl h1 ?_
  refine lw_arg 1 ad hx hb hX hbl hbA hS h0 h3 hi6 hL (by omega) rfl dl_368 dl_369 dl_370 dl_371 dl_372 ?_
  refine lw_arg 2 ad hx hb hX hbl hbA hS h0 h3 hi6 hL (by omega) rfl dl_373 dl_374 dl_375 dl_376 dl_377 ?_
  refine lw_call (A := fun q => s.heap.size ≤ q) (h := h) (z := 172) (idx := 37) (pl := 946) (k := 0) (ci := 11) (As := [.inl (xs (i + 1)).toInt, .inl (xs (i + 2)).toInt]) (rest := []) hx hb hml hown hts hK (fun _ q => q) hR hS hsz am_P_172 am_mi_172 (List.mem_of_getElem? (i := 12) rfl) (by omega) n2 rfl (fun v hv => by simp only [List.mem_cons, List.mem_nil_iff, or_false] at hv; rcases hv with rfl | rfl <;> first | exact am_r32 _ | exact am_0 | (show am_i32 1; unfold am_i32; omega)) (by decide) e1 (by rw [q1]) dl_378 (fun H locs hR hS _ => ?_)
  refine lv_aload_n hx hb dl_381 rfl h2 ?_
  refine lw_arg 1 ad hx hb hX hbl hbA hS h0 h3 hi6 hL (by omega) rfl dl_382 dl_383 dl_384 dl_385 dl_386 ?_
  refine lw_arg 2 ad hx hb hX hbl hbA hS h0 h3 hi6 hL (by omega) rfl dl_387 dl_388 dl_389 dl_390 dl_391 ?_
  refine lw_call (A := fun q => s.heap.size ≤ q) (h := g1) (z := 256) (idx := 41) (pl := 2004) (k := 173) (ci := 12) (As := [.inl (xs (i + 1)).toInt, .inl (xs (i + 2)).toInt]) (rest := ((am_rvv ad 1 r).toList ++ [])) hx hb hml hown hts hK (fun _ q => q) hR hS hsz am_P_256 am_mi_256 (List.mem_of_getElem? (i := 13) rfl) (by rw [q1]; omega) (by rw [q1]; exact n3) rfl (fun v hv => by simp only [List.mem_cons, List.mem_nil_iff, or_false] at hv; rcases hv with rfl | rfl <;> first | exact am_r32 _ | exact am_0 | (show am_i32 1; unfold am_i32; omega)) (by show _ ≤ 8; simp [am_rvv, Value.category]) e2 (by rw [q2, q1]) dl_392 (fun H locs hR hS _ => ?_)
  exact lv_icmp_eq (tgt := 1381) hx hb dl_395 (by decide) (fun _ => hE g2 H locs i2 hR hS) (fun q => absurd rfl q)
theorem lw_c6 (Fx : lw_F p s m meth c b L xs D cs ad cls i) (hpl : am_plan Inv) (hpr : am_pr Inv Inv' 173 257 [.inl (xs (i + 1)).toInt]) (hE : lw_E p l e s m below meth c b D cs ad cls Inv' 1381 []) : lw_E p l e s m below meth c b D cs ad cls Inv 400 [] := by
  obtain ⟨hx, hb, hml, hown, hts, hK, hX, hbl, hsz, h0, h1, h2, h3, hi6, hL⟩ := Fx
  intro h H locs hi hR hS
  obtain ⟨F, F2, r, g1, g2, e1, q1, e2, q2, i2⟩ := am_pr_use hpr hi
  obtain ⟨n1, n2, n3⟩ := hpl h hi
  have hbA : ¬ (fun q : Nat => s.heap.size ≤ q) b := Nat.not_le.mpr hbl
  refine lv_aload_n hx hb dl_400 rfl h1 ?_
  refine lw_arg 1 ad hx hb hX hbl hbA hS h0 h3 hi6 hL (by omega) rfl dl_401 dl_402 dl_403 dl_404 dl_405 ?_
  refine lw_call (A := fun q => s.heap.size ≤ q) (h := h) (z := 173) (idx := 42) (pl := 951) (k := 0) (ci := 11) (As := [.inl (xs (i + 1)).toInt]) (rest := []) hx hb hml hown hts hK (fun _ q => q) hR hS hsz am_P_173 am_mi_173 (List.mem_of_getElem? (i := 14) rfl) (by omega) n2 rfl (fun v hv => by simp only [List.mem_cons, List.mem_nil_iff, or_false] at hv; rcases hv with rfl <;> first | exact am_r32 _ | exact am_0 | (show am_i32 1; unfold am_i32; omega)) (by decide) e1 (by rw [q1]) dl_406 (fun H locs hR hS _ => ?_)
  refine lv_aload_n hx hb dl_409 rfl h2 ?_
  refine lw_arg 1 ad hx hb hX hbl hbA hS h0 h3 hi6 hL (by omega) rfl dl_410 dl_411 dl_412 dl_413 dl_414 ?_
  refine lw_call (A := fun q => s.heap.size ≤ q) (h := g1) (z := 257) (idx := 45) (pl := 2008) (k := 173) (ci := 12) (As := [.inl (xs (i + 1)).toInt]) (rest := ((am_rvv ad 1 r).toList ++ [])) hx hb hml hown hts hK (fun _ q => q) hR hS hsz am_P_257 am_mi_257 (List.mem_of_getElem? (i := 15) rfl) (by rw [q1]; omega) (by rw [q1]; exact n3) rfl (fun v hv => by simp only [List.mem_cons, List.mem_nil_iff, or_false] at hv; rcases hv with rfl <;> first | exact am_r32 _ | exact am_0 | (show am_i32 1; unfold am_i32; omega)) (by show _ ≤ 8; simp [am_rvv, Value.category]) e2 (by rw [q2, q1]) dl_415 (fun H locs hR hS _ => ?_)
  exact lv_icmp_eq (tgt := 1381) hx hb dl_418 (by decide) (fun _ => hE g2 H locs i2 hR hS) (fun q => absurd rfl q)
theorem lw_c7 (Fx : lw_F p s m meth c b L xs D cs ad cls i) (hpl : am_plan Inv) (hpr : am_pr Inv Inv' 174 258 []) (hE : lw_E p l e s m below meth c b D cs ad cls Inv' 1381 []) : lw_E p l e s m below meth c b D cs ad cls Inv 423 [] := by
  obtain ⟨hx, hb, hml, hown, hts, hK, hX, hbl, hsz, h0, h1, h2, h3, hi6, hL⟩ := Fx
  intro h H locs hi hR hS
  obtain ⟨F, F2, r, g1, g2, e1, q1, e2, q2, i2⟩ := am_pr_use hpr hi
  obtain ⟨n1, n2, n3⟩ := hpl h hi
  have hbA : ¬ (fun q : Nat => s.heap.size ≤ q) b := Nat.not_le.mpr hbl
  refine lv_aload_n hx hb dl_423 rfl h1 ?_
  refine lw_call (A := fun q => s.heap.size ≤ q) (h := h) (z := 174) (idx := 46) (pl := 961) (k := 0) (ci := 11) (As := []) (rest := []) hx hb hml hown hts hK (fun _ q => q) hR hS hsz am_P_174 am_mi_174 (List.mem_of_getElem? (i := 16) rfl) (by omega) n2 rfl (fun v hv => by cases hv) (by decide) e1 (by rw [q1]) dl_424 (fun H locs hR hS _ => ?_)
  refine lv_aload_n hx hb dl_427 rfl h2 ?_
  refine lw_call (A := fun q => s.heap.size ≤ q) (h := g1) (z := 258) (idx := 49) (pl := 2024) (k := 173) (ci := 12) (As := []) (rest := ((am_rvv ad 1 r).toList ++ [])) hx hb hml hown hts hK (fun _ q => q) hR hS hsz am_P_258 am_mi_258 (List.mem_of_getElem? (i := 17) rfl) (by rw [q1]; omega) (by rw [q1]; exact n3) rfl (fun v hv => by cases hv) (by show _ ≤ 8; simp [am_rvv, Value.category]) e2 (by rw [q2, q1]) dl_428 (fun H locs hR hS _ => ?_)
  exact lv_icmp_eq (tgt := 1381) hx hb dl_431 (by decide) (fun _ => hE g2 H locs i2 hR hS) (fun q => absurd rfl q)
theorem lw_c8 (Fx : lw_F p s m meth c b L xs D cs ad cls i) (hpl : am_plan Inv) (hpr : am_pr Inv Inv' 175 285 [.inl (xs (i + 1)).toInt]) (hE : lw_E p l e s m below meth c b D cs ad cls Inv' 1381 []) : lw_E p l e s m below meth c b D cs ad cls Inv 436 [] := by
  obtain ⟨hx, hb, hml, hown, hts, hK, hX, hbl, hsz, h0, h1, h2, h3, hi6, hL⟩ := Fx
  intro h H locs hi hR hS
  obtain ⟨F, F2, r, g1, g2, e1, q1, e2, q2, i2⟩ := am_pr_use hpr hi
  obtain ⟨n1, n2, n3⟩ := hpl h hi
  have hbA : ¬ (fun q : Nat => s.heap.size ≤ q) b := Nat.not_le.mpr hbl
  refine lv_aload_n hx hb dl_436 rfl h1 ?_
  refine lw_arg 1 ad hx hb hX hbl hbA hS h0 h3 hi6 hL (by omega) rfl dl_437 dl_438 dl_439 dl_440 dl_441 ?_
  refine lw_call (A := fun q => s.heap.size ≤ q) (h := h) (z := 175) (idx := 50) (pl := 965) (k := 0) (ci := 11) (As := [.inl (xs (i + 1)).toInt]) (rest := []) hx hb hml hown hts hK (fun _ q => q) hR hS hsz am_P_175 am_mi_175 (List.mem_of_getElem? (i := 18) rfl) (by omega) n2 rfl (fun v hv => by simp only [List.mem_cons, List.mem_nil_iff, or_false] at hv; rcases hv with rfl <;> first | exact am_r32 _ | exact am_0 | (show am_i32 1; unfold am_i32; omega)) (by decide) e1 (by rw [q1]) dl_442 (fun H locs hR hS _ => ?_)
  refine lv_aload_n hx hb dl_445 rfl h2 ?_
  refine lw_arg 1 ad hx hb hX hbl hbA hS h0 h3 hi6 hL (by omega) rfl dl_446 dl_447 dl_448 dl_449 dl_450 ?_
  refine lw_call (A := fun q => s.heap.size ≤ q) (h := g1) (z := 285) (idx := 53) (pl := 2028) (k := 173) (ci := 12) (As := [.inl (xs (i + 1)).toInt]) (rest := ((am_rvv ad 1 r).toList ++ [])) hx hb hml hown hts hK (fun _ q => q) hR hS hsz am_P_285 am_mi_285 (List.mem_of_getElem? (i := 19) rfl) (by rw [q1]; omega) (by rw [q1]; exact n3) rfl (fun v hv => by simp only [List.mem_cons, List.mem_nil_iff, or_false] at hv; rcases hv with rfl <;> first | exact am_r32 _ | exact am_0 | (show am_i32 1; unfold am_i32; omega)) (by show _ ≤ 8; simp [am_rvv, Value.category]) e2 (by rw [q2, q1]) dl_451 (fun H locs hR hS _ => ?_)
  exact lv_icmp_eq (tgt := 1381) hx hb dl_454 (by decide) (fun _ => hE g2 H locs i2 hR hS) (fun q => absurd rfl q)
theorem lw_c9 (Fx : lw_F p s m meth c b L xs D cs ad cls i) (hpl : am_plan Inv) (hpr : am_pr Inv Inv' 176 286 [.inl (xs (i + 1)).toInt, .inl (xs (i + 2)).toInt]) (hE : lw_E p l e s m below meth c b D cs ad cls Inv' 1381 []) : lw_E p l e s m below meth c b D cs ad cls Inv 459 [] := by
  obtain ⟨hx, hb, hml, hown, hts, hK, hX, hbl, hsz, h0, h1, h2, h3, hi6, hL⟩ := Fx
  intro h H locs hi hR hS
  obtain ⟨F, F2, r, g1, g2, e1, q1, e2, q2, i2⟩ := am_pr_use hpr hi
  obtain ⟨n1, n2, n3⟩ := hpl h hi
  have hbA : ¬ (fun q : Nat => s.heap.size ≤ q) b := Nat.not_le.mpr hbl
  refine lv_aload_n hx hb dl_459 rfl h1 ?_
  refine lw_arg 1 ad hx hb hX hbl hbA hS h0 h3 hi6 hL (by omega) rfl dl_460 dl_461 dl_462 dl_463 dl_464 ?_
  refine lw_arg 2 ad hx hb hX hbl hbA hS h0 h3 hi6 hL (by omega) rfl dl_465 dl_466 dl_467 dl_468 dl_469 ?_
  refine lw_call (A := fun q => s.heap.size ≤ q) (h := h) (z := 176) (idx := 54) (pl := 1295) (k := 0) (ci := 11) (As := [.inl (xs (i + 1)).toInt, .inl (xs (i + 2)).toInt]) (rest := []) hx hb hml hown hts hK (fun _ q => q) hR hS hsz am_P_176 am_mi_176 (List.mem_of_getElem? (i := 20) rfl) (by omega) n2 rfl (fun v hv => by simp only [List.mem_cons, List.mem_nil_iff, or_false] at hv; rcases hv with rfl | rfl <;> first | exact am_r32 _ | exact am_0 | (show am_i32 1; unfold am_i32; omega)) (by decide) e1 (by rw [q1]) dl_470 (fun H locs hR hS _ => ?_)
  refine lv_aload_n hx hb dl_473 rfl h2 ?_
  refine lw_arg 1 ad hx hb hX hbl hbA hS h0 h3 hi6 hL (by omega) rfl dl_474 dl_475 dl_476 dl_477 dl_478 ?_
  refine lw_arg 2 ad hx hb hX hbl hbA hS h0 h3 hi6 hL (by omega) rfl dl_479 dl_480 dl_481 dl_482 dl_483 ?_
  refine lw_call (A := fun q => s.heap.size ≤ q) (h := g1) (z := 286) (idx := 57) (pl := 2128) (k := 173) (ci := 12) (As := [.inl (xs (i + 1)).toInt, .inl (xs (i + 2)).toInt]) (rest := ((am_rvv ad 1 r).toList ++ [])) hx hb hml hown hts hK (fun _ q => q) hR hS hsz am_P_286 am_mi_286 (List.mem_of_getElem? (i := 21) rfl) (by rw [q1]; omega) (by rw [q1]; exact n3) rfl (fun v hv => by simp only [List.mem_cons, List.mem_nil_iff, or_false] at hv; rcases hv with rfl | rfl <;> first | exact am_r32 _ | exact am_0 | (show am_i32 1; unfold am_i32; omega)) (by show _ ≤ 8; simp [am_rvv, Value.category]) e2 (by rw [q2, q1]) dl_484 (fun H locs hR hS _ => ?_)
  exact lv_icmp_eq (tgt := 1381) hx hb dl_487 (by decide) (fun _ => hE g2 H locs i2 hR hS) (fun q => absurd rfl q)
theorem lw_c10 (Fx : lw_F p s m meth c b L xs D cs ad cls i) (hpl : am_plan Inv) (hpr : am_pr Inv Inv' 177 287 [.inl (xs (i + 1)).toInt, .inl (xs (i + 2)).toInt]) (hE : lw_E p l e s m below meth c b D cs ad cls Inv' 1381 []) : lw_E p l e s m below meth c b D cs ad cls Inv 492 [] := by
  obtain ⟨hx, hb, hml, hown, hts, hK, hX, hbl, hsz, h0, h1, h2, h3, hi6, hL⟩ := Fx
  intro h H locs hi hR hS
  obtain ⟨F, F2, r, g1, g2, e1, q1, e2, q2, i2⟩ := am_pr_use hpr hi
  obtain ⟨n1, n2, n3⟩ := hpl h hi
  have hbA : ¬ (fun q : Nat => s.heap.size ≤ q) b := Nat.not_le.mpr hbl
  refine lv_aload_n hx hb dl_492 rfl h1 ?_
  refine lw_arg 1 ad hx hb hX hbl hbA hS h0 h3 hi6 hL (by omega) rfl dl_493 dl_494 dl_495 dl_496 dl_497 ?_
  refine lw_arg 2 ad hx hb hX hbl hbA hS h0 h3 hi6 hL (by omega) rfl dl_498 dl_499 dl_500 dl_501 dl_502 ?_
  refine lw_call (A := fun q => s.heap.size ≤ q) (h := h) (z := 177) (idx := 58) (pl := 1299) (k := 0) (ci := 11) (As := [.inl (xs (i + 1)).toInt, .inl (xs (i + 2)).toInt]) (rest := []) hx hb hml hown hts hK (fun _ q => q) hR hS hsz am_P_177 am_mi_177 (List.mem_of_getElem? (i := 22) rfl) (by omega) n2 rfl (fun v hv => by simp only [List.mem_cons, List.mem_nil_iff, or_false] at hv; rcases hv with rfl | rfl <;> first | exact am_r32 _ | exact am_0 | (show am_i32 1; unfold am_i32; omega)) (by decide) e1 (by rw [q1]) dl_503 (fun H locs hR hS _ => ?_)
  refine lv_aload_n hx hb dl_506 rfl h2 ?_
  refine lw_arg 1 ad hx hb hX hbl hbA hS h0 h3 hi6 hL (by omega) rfl dl_507 dl_508 dl_509 dl_510 dl_511 ?_
  refine lw_arg 2 ad hx hb hX hbl hbA hS h0 h3 hi6 hL (by omega) rfl dl_512 dl_513 dl_514 dl_515 dl_516 ?_
  refine lw_call (A := fun q => s.heap.size ≤ q) (h := g1) (z := 287) (idx := 61) (pl := 2132) (k := 173) (ci := 12) (As := [.inl (xs (i + 1)).toInt, .inl (xs (i + 2)).toInt]) (rest := ((am_rvv ad 1 r).toList ++ [])) hx hb hml hown hts hK (fun _ q => q) hR hS hsz am_P_287 am_mi_287 (List.mem_of_getElem? (i := 23) rfl) (by rw [q1]; omega) (by rw [q1]; exact n3) rfl (fun v hv => by simp only [List.mem_cons, List.mem_nil_iff, or_false] at hv; rcases hv with rfl | rfl <;> first | exact am_r32 _ | exact am_0 | (show am_i32 1; unfold am_i32; omega)) (by show _ ≤ 8; simp [am_rvv, Value.category]) e2 (by rw [q2, q1]) dl_517 (fun H locs hR hS _ => ?_)
  exact lv_icmp_eq (tgt := 1381) hx hb dl_520 (by decide) (fun _ => hE g2 H locs i2 hR hS) (fun q => absurd rfl q)
theorem lw_c11 (Fx : lw_F p s m meth c b L xs D cs ad cls i) (hpl : am_plan Inv) (hpr : am_pr Inv Inv' 178 289 [.inl (xs (i + 1)).toInt, .inl (xs (i + 2)).toInt]) (hE : lw_E p l e s m below meth c b D cs ad cls Inv' 1381 []) : lw_E p l e s m below meth c b D cs ad cls Inv 525 [] := by
  obtain ⟨hx, hb, hml, hown, hts, hK, hX, hbl, hsz, h0, h1, h2, h3, hi6, hL⟩ := Fx
  intro h H locs hi hR hS
  obtain ⟨F, F2, r, g1, g2, e1, q1, e2, q2, i2⟩ := am_pr_use hpr hi
  obtain ⟨n1, n2, n3⟩ := hpl h hi
  have hbA : ¬ (fun q : Nat => s.heap.size ≤ q) b := Nat.not_le.mpr hbl
  refine lv_aload_n hx hb dl_525 rfl h1 ?_
  refine lw_arg 1 ad hx hb hX hbl hbA hS h0 h3 hi6 hL (by omega) rfl dl_526 dl_527 dl_528 dl_529 dl_530 ?_
  refine lw_arg 2 ad hx hb hX hbl hbA hS h0 h3 hi6 hL (by omega) rfl dl_531 dl_532 dl_533 dl_534 dl_535 ?_
  refine lw_call (A := fun q => s.heap.size ≤ q) (h := h) (z := 178) (idx := 62) (pl := 1304) (k := 0) (ci := 11) (As := [.inl (xs (i + 1)).toInt, .inl (xs (i + 2)).toInt]) (rest := []) hx hb hml hown hts hK (fun _ q => q) hR hS hsz am_P_178 am_mi_178 (List.mem_of_getElem? (i := 24) rfl) (by omega) n2 rfl (fun v hv => by simp only [List.mem_cons, List.mem_nil_iff, or_false] at hv; rcases hv with rfl | rfl <;> first | exact am_r32 _ | exact am_0 | (show am_i32 1; unfold am_i32; omega)) (by decide) e1 (by rw [q1]) dl_536 (fun H locs hR hS _ => ?_)
  refine lv_aload_n hx hb dl_539 rfl h2 ?_
  refine lw_arg 1 ad hx hb hX hbl hbA hS h0 h3 hi6 hL (by omega) rfl dl_540 dl_541 dl_542 dl_543 dl_544 ?_
  refine lw_arg 2 ad hx hb hX hbl hbA hS h0 h3 hi6 hL (by omega) rfl dl_545 dl_546 dl_547 dl_548 dl_549 ?_
  refine lw_call (A := fun q => s.heap.size ≤ q) (h := g1) (z := 289) (idx := 65) (pl := 2136) (k := 173) (ci := 12) (As := [.inl (xs (i + 1)).toInt, .inl (xs (i + 2)).toInt]) (rest := ((am_rvv ad 1 r).toList ++ [])) hx hb hml hown hts hK (fun _ q => q) hR hS hsz am_P_289 am_mi_289 (List.mem_of_getElem? (i := 25) rfl) (by rw [q1]; omega) (by rw [q1]; exact n3) rfl (fun v hv => by simp only [List.mem_cons, List.mem_nil_iff, or_false] at hv; rcases hv with rfl | rfl <;> first | exact am_r32 _ | exact am_0 | (show am_i32 1; unfold am_i32; omega)) (by show _ ≤ 8; simp [am_rvv, Value.category]) e2 (by rw [q2, q1]) dl_550 (fun H locs hR hS _ => ?_)
  exact lv_icmp_eq (tgt := 1381) hx hb dl_553 (by decide) (fun _ => hE g2 H locs i2 hR hS) (fun q => absurd rfl q)
theorem lw_c12 (Fx : lw_F p s m meth c b L xs D cs ad cls i) (hpl : am_plan Inv) (hpr : am_pr Inv Inv' 179 292 [.inl (xs (i + 1)).toInt]) (hE : lw_E p l e s m below meth c b D cs ad cls Inv' 1381 []) : lw_E p l e s m below meth c b D cs ad cls Inv 558 [] := by
  obtain ⟨hx, hb, hml, hown, hts, hK, hX, hbl, hsz, h0, h1, h2, h3, hi6, hL⟩ := Fx
  intro h H locs hi hR hS
  obtain ⟨F, F2, r, g1, g2, e1, q1, e2, q2, i2⟩ := am_pr_use hpr hi
  obtain ⟨n1, n2, n3⟩ := hpl h hi
  have hbA : ¬ (fun q : Nat => s.heap.size ≤ q) b := Nat.not_le.mpr hbl
  refine lv_aload_n hx hb dl_558 rfl h1 ?_
  refine lw_arg 1 ad hx hb hX hbl hbA hS h0 h3 hi6 hL (by omega) rfl dl_559 dl_560 dl_561 dl_562 dl_563 ?_
  refine lw_call (A := fun q => s.heap.size ≤ q) (h := h) (z := 179) (idx := 66) (pl := 1308) (k := 0) (ci := 11) (As := [.inl (xs (i + 1)).toInt]) (rest := []) hx hb hml hown hts hK (fun _ q => q) hR hS hsz am_P_179 am_mi_179 (List.mem_of_getElem? (i := 26) rfl) (by omega) n2 rfl (fun v hv => by simp only [List.mem_cons, List.mem_nil_iff, or_false] at hv; rcases hv with rfl <;> first | exact am_r32 _ | exact am_0 | (show am_i32 1; unfold am_i32; omega)) (by decide) e1 (by rw [q1]) dl_564 (fun H locs hR hS _ => ?_)
  refine lv_aload_n hx hb dl_567 rfl h2 ?_
  refine lw_arg 1 ad hx hb hX hbl hbA hS h0 h3 hi6 hL (by omega) rfl dl_568 dl_569 dl_570 dl_571 dl_572 ?_
  refine lw_call (A := fun q => s.heap.size ≤ q) (h := g1) (z := 292) (idx := 69) (pl := 2144) (k := 173) (ci := 12) (As := [.inl (xs (i + 1)).toInt]) (rest := ((am_rvv ad 1 r).toList ++ [])) hx hb hml hown hts hK (fun _ q => q) hR hS hsz am_P_292 am_mi_292 (List.mem_of_getElem? (i := 27) rfl) (by rw [q1]; omega) (by rw [q1]; exact n3) rfl (fun v hv => by simp only [List.mem_cons, List.mem_nil_iff, or_false] at hv; rcases hv with rfl <;> first | exact am_r32 _ | exact am_0 | (show am_i32 1; unfold am_i32; omega)) (by show _ ≤ 8; simp [am_rvv, Value.category]) e2 (by rw [q2, q1]) dl_573 (fun H locs hR hS _ => ?_)
  exact lv_icmp_eq (tgt := 1381) hx hb dl_576 (by decide) (fun _ => hE g2 H locs i2 hR hS) (fun q => absurd rfl q)
theorem lw_c13 (Fx : lw_F p s m meth c b L xs D cs ad cls i) (hpl : am_plan Inv) (hpr : am_pr Inv Inv' 180 297 [.inl (xs (i + 1)).toInt, .inl (xs (i + 2)).toInt]) (hE : lw_E p l e s m below meth c b D cs ad cls Inv' 1381 []) : lw_E p l e s m below meth c b D cs ad cls Inv 581 [] := by
  obtain ⟨hx, hb, hml, hown, hts, hK, hX, hbl, hsz, h0, h1, h2, h3, hi6, hL⟩ := Fx
  intro h H locs hi hR hS
  obtain ⟨F, F2, r, g1, g2, e1, q1, e2, q2, i2⟩ := am_pr_use hpr hi
  obtain ⟨n1, n2, n3⟩ := hpl h hi
  have hbA : ¬ (fun q : Nat => s.heap.size ≤ q) b := Nat.not_le.mpr hbl
  refine lv_aload_n hx hb dl_581 rfl h1 ?_
  refine lw_arg 1 ad hx hb hX hbl hbA hS h0 h3 hi6 hL (by omega) rfl dl_582 dl_583 dl_584 dl_585 dl_586 ?_
  refine lw_arg 2 ad hx hb hX hbl hbA hS h0 h3 hi6 hL (by omega) rfl dl_587 dl_588 dl_589 dl_590 dl_591 ?_
  refine lw_call (A := fun q => s.heap.size ≤ q) (h := h) (z := 180) (idx := 70) (pl := 1312) (k := 0) (ci := 11) (As := [.inl (xs (i + 1)).toInt, .inl (xs (i + 2)).toInt]) (rest := []) hx hb hml hown hts hK (fun _ q => q) hR hS hsz am_P_180 am_mi_180 (List.mem_of_getElem? (i := 28) rfl) (by omega) n2 rfl (fun v hv => by simp only [List.mem_cons, List.mem_nil_iff, or_false] at hv; rcases hv with rfl | rfl <;> first | exact am_r32 _ | exact am_0 | (show am_i32 1; unfold am_i32; omega)) (by decide) e1 (by rw [q1]) dl_592 (fun H locs hR hS _ => ?_)
  refine lv_aload_n hx hb dl_595 rfl h2 ?_
  refine lw_arg 1 ad hx hb hX hbl hbA hS h0 h3 hi6 hL (by omega) rfl dl_596 dl_597 dl_598 dl_599 dl_600 ?_
  refine lw_arg 2 ad hx hb hX hbl hbA hS h0 h3 hi6 hL (by omega) rfl dl_601 dl_602 dl_603 dl_604 dl_605 ?_
  refine lw_call (A := fun q => s.heap.size ≤ q) (h := g1) (z := 297) (idx := 73) (pl := 2168) (k := 173) (ci := 12) (As := [.inl (xs (i + 1)).toInt, .inl (xs (i + 2)).toInt]) (rest := ((am_rvv ad 1 r).toList ++ [])) hx hb hml hown hts hK (fun _ q => q) hR hS hsz am_P_297 am_mi_297 (List.mem_of_getElem? (i := 29) rfl) (by rw [q1]; omega) (by rw [q1]; exact n3) rfl (fun v hv => by simp only [List.mem_cons, List.mem_nil_iff, or_false] at hv; rcases hv with rfl | rfl <;> first | exact am_r32 _ | exact am_0 | (show am_i32 1; unfold am_i32; omega)) (by show _ ≤ 8; simp [am_rvv, Value.category]) e2 (by rw [q2, q1]) dl_606 (fun H locs hR hS _ => ?_)
  exact lv_icmp_eq (tgt := 1381) hx hb dl_609 (by decide) (fun _ => hE g2 H locs i2 hR hS) (fun q => absurd rfl q)
theorem lw_c14 (Fx : lw_F p s m meth c b L xs D cs ad cls i) (hpl : am_plan Inv) (hpr : am_pr Inv Inv' 181 298 [.inl (xs (i + 1)).toInt, .inl (xs (i + 2)).toInt]) (hE : lw_E p l e s m below meth c b D cs ad cls Inv' 1381 []) : lw_E p l e s m below meth c b D cs ad cls Inv 614 [] := by
  obtain ⟨hx, hb, hml, hown, hts, hK, hX, hbl, hsz, h0, h1, h2, h3, hi6, hL⟩ := Fx
  intro h H locs hi hR hS
  obtain ⟨F, F2, r, g1, g2, e1, q1, e2, q2, i2⟩ := am_pr_use hpr hi
  obtain ⟨n1, n2, n3⟩ := hpl h hi
  have hbA : ¬ (fun q : Nat => s.heap.size ≤ q) b := Nat.not_le.mpr hbl
  refine lv_aload_n hx hb dl_614 rfl h1 ?_
  refine lw_arg 1 ad hx hb hX hbl hbA hS h0 h3 hi6 hL (by omega) rfl dl_615 dl_616 dl_617 dl_618 dl_619 ?_
  refine lw_arg 2 ad hx hb hX hbl hbA hS h0 h3 hi6 hL (by omega) rfl dl_620 dl_621 dl_622 dl_623 dl_624 ?_
  refine lw_call (A := fun q => s.heap.size ≤ q) (h := h) (z := 181) (idx := 74) (pl := 1324) (k := 0) (ci := 11) (As := [.inl (xs (i + 1)).toInt, .inl (xs (i + 2)).toInt]) (rest := []) hx hb hml hown hts hK (fun _ q => q) hR hS hsz am_P_181 am_mi_181 (List.mem_of_getElem? (i := 30) rfl) (by omega) n2 rfl (fun v hv => by simp only [List.mem_cons, List.mem_nil_iff, or_false] at hv; rcases hv with rfl | rfl <;> first | exact am_r32 _ | exact am_0 | (show am_i32 1; unfold am_i32; omega)) (by decide) e1 (by rw [q1]) dl_625 (fun H locs hR hS _ => ?_)
  refine lv_aload_n hx hb dl_628 rfl h2 ?_
  refine lw_arg 1 ad hx hb hX hbl hbA hS h0 h3 hi6 hL (by omega) rfl dl_629 dl_630 dl_631 dl_632 dl_633 ?_
  refine lw_arg 2 ad hx hb hX hbl hbA hS h0 h3 hi6 hL (by omega) rfl dl_634 dl_635 dl_636 dl_637 dl_638 ?_
  refine lw_call (A := fun q => s.heap.size ≤ q) (h := g1) (z := 298) (idx := 77) (pl := 2176) (k := 173) (ci := 12) (As := [.inl (xs (i + 1)).toInt, .inl (xs (i + 2)).toInt]) (rest := ((am_rvv ad 1 r).toList ++ [])) hx hb hml hown hts hK (fun _ q => q) hR hS hsz am_P_298 am_mi_298 (List.mem_of_getElem? (i := 31) rfl) (by rw [q1]; omega) (by rw [q1]; exact n3) rfl (fun v hv => by simp only [List.mem_cons, List.mem_nil_iff, or_false] at hv; rcases hv with rfl | rfl <;> first | exact am_r32 _ | exact am_0 | (show am_i32 1; unfold am_i32; omega)) (by show _ ≤ 8; simp [am_rvv, Value.category]) e2 (by rw [q2, q1]) dl_639 (fun H locs hR hS _ => ?_)
  exact lv_icmp_eq (tgt := 1381) hx hb dl_642 (by decide) (fun _ => hE g2 H locs i2 hR hS) (fun q => absurd rfl q)
theorem lw_c15 (Fx : lw_F p s m meth c b L xs D cs ad cls i) (hpl : am_plan Inv) (hpr : am_pr Inv Inv' 182 300 [.inl (xs (i + 1)).toInt, .inl (xs (i + 2)).toInt]) (hE : lw_E p l e s m below meth c b D cs ad cls Inv' 1381 []) : lw_E p l e s m below meth c b D cs ad cls Inv 647 [] := by
  obtain ⟨hx, hb, hml, hown, hts, hK, hX, hbl, hsz, h0, h1, h2, h3, hi6, hL⟩ := Fx
  intro h H locs hi hR hS
  obtain ⟨F, F2, r, g1, g2, e1, q1, e2, q2, i2⟩ := am_pr_use hpr hi
  obtain ⟨n1, n2, n3⟩ := hpl h hi
  have hbA : ¬ (fun q : Nat => s.heap.size ≤ q) b := Nat.not_le.mpr hbl
  refine lv_aload_n hx hb dl_647 rfl h1 ?_
  refine lw_arg 1 ad hx hb hX hbl hbA hS h0 h3 hi6 hL (by omega) rfl dl_648 dl_649 dl_650 dl_651 dl_652 ?_
  refine lw_arg 2 ad hx hb hX hbl hbA hS h0 h3 hi6 hL (by omega) rfl dl_653 dl_654 dl_655 dl_656 dl_657 ?_
  refine lw_call (A := fun q => s.heap.size ≤ q) (h := h) (z := 182) (idx := 78) (pl := 1336) (k := 0) (ci := 11) (As := [.inl (xs (i + 1)).toInt, .inl (xs (i + 2)).toInt]) (rest := []) hx hb hml hown hts hK (fun _ q => q) hR hS hsz am_P_182 am_mi_182 (List.mem_of_getElem? (i := 32) rfl) (by omega) n2 rfl (fun v hv => by simp only [List.mem_cons, List.mem_nil_iff, or_false] at hv; rcases hv with rfl | rfl <;> first | exact am_r32 _ | exact am_0 | (show am_i32 1; unfold am_i32; omega)) (by decide) e1 (by rw [q1]) dl_658 (fun H locs hR hS _ => ?_)
  refine lv_aload_n hx hb dl_661 rfl h2 ?_
  refine lw_arg 1 ad hx hb hX hbl hbA hS h0 h3 hi6 hL (by omega) rfl dl_662 dl_663 dl_664 dl_665 dl_666 ?_
  refine lw_arg 2 ad hx hb hX hbl hbA hS h0 h3 hi6 hL (by omega) rfl dl_667 dl_668 dl_669 dl_670 dl_671 ?_
  refine lw_call (A := fun q => s.heap.size ≤ q) (h := g1) (z := 300) (idx := 81) (pl := 2180) (k := 173) (ci := 12) (As := [.inl (xs (i + 1)).toInt, .inl (xs (i + 2)).toInt]) (rest := ((am_rvv ad 1 r).toList ++ [])) hx hb hml hown hts hK (fun _ q => q) hR hS hsz am_P_300 am_mi_300 (List.mem_of_getElem? (i := 33) rfl) (by rw [q1]; omega) (by rw [q1]; exact n3) rfl (fun v hv => by simp only [List.mem_cons, List.mem_nil_iff, or_false] at hv; rcases hv with rfl | rfl <;> first | exact am_r32 _ | exact am_0 | (show am_i32 1; unfold am_i32; omega)) (by show _ ≤ 8; simp [am_rvv, Value.category]) e2 (by rw [q2, q1]) dl_672 (fun H locs hR hS _ => ?_)
  exact lv_icmp_eq (tgt := 1381) hx hb dl_675 (by decide) (fun _ => hE g2 H locs i2 hR hS) (fun q => absurd rfl q)
theorem lw_c16 (Fx : lw_F p s m meth c b L xs D cs ad cls i) (hpl : am_plan Inv) (hpr : am_pr Inv Inv' 183 301 [.inl (xs (i + 1)).toInt, .inl (if xs (i + 2) = 0 then 0 else 1), .inl (xs (i + 3)).toInt]) (hE : lw_E p l e s m below meth c b D cs ad cls Inv' 1381 []) : lw_E p l e s m below meth c b D cs ad cls Inv 680 [] := by
  obtain ⟨hx, hb, hml, hown, hts, hK, hX, hbl, hsz, h0, h1, h2, h3, hi6, hL⟩ := Fx
  intro h H locs hi hR hS
  obtain ⟨F, F2, r, g1, g2, e1, q1, e2, q2, i2⟩ := am_pr_use hpr hi
  obtain ⟨n1, n2, n3⟩ := hpl h hi
  have hbA : ¬ (fun q : Nat => s.heap.size ≤ q) b := Nat.not_le.mpr hbl
  by_cases b2 : xs (i + 2) = 0
  · rw [if_pos b2] at e1 e2
    refine lv_aload_n hx hb dl_680 rfl h1 ?_
    refine lw_arg 1 ad hx hb hX hbl hbA hS h0 h3 hi6 hL (by omega) rfl dl_681 dl_682 dl_683 dl_684 dl_685 ?_
    refine lw_arg 2 ad hx hb hX hbl hbA hS h0 h3 hi6 hL (by omega) rfl dl_686 dl_687 dl_688 dl_689 dl_690 ?_
    refine lv_if_eq (tgt := 698) hx hb dl_691 (by decide) (fun _ => ?_) (fun q => absurd ((Int32.ofInt_toInt _).trans b2) q)
    refine lv_iconst (v := Int32.ofInt 0) hx hb dl_698 rfl ?_
    refine lw_arg 3 ad hx hb hX hbl hbA hS h0 h3 hi6 hL (by omega) rfl dl_699 dl_700 dl_701 dl_702 dl_703 ?_
    refine lw_call (A := fun q => s.heap.size ≤ q) (h := h) (z := 183) (idx := 82) (pl := 1349) (k := 0) (ci := 11) (As := [.inl (xs (i + 1)).toInt, .inl 0, .inl (xs (i + 3)).toInt]) (rest := []) hx hb hml hown hts hK (fun _ q => q) hR hS hsz am_P_183 am_mi_183 (List.mem_of_getElem? (i := 34) rfl) (by omega) n2 rfl (fun v hv => by simp only [List.mem_cons, List.mem_nil_iff, or_false] at hv; rcases hv with rfl | rfl | rfl <;> first | exact am_r32 _ | exact am_0 | (show am_i32 1; unfold am_i32; omega)) (by decide) e1 (by rw [q1]) dl_704 (fun H locs hR hS _ => ?_)
    refine lv_aload_n hx hb dl_707 rfl h2 ?_
    refine lw_arg 1 ad hx hb hX hbl hbA hS h0 h3 hi6 hL (by omega) rfl dl_708 dl_709 dl_710 dl_711 dl_712 ?_
    refine lw_arg 2 ad hx hb hX hbl hbA hS h0 h3 hi6 hL (by omega) rfl dl_713 dl_714 dl_715 dl_716 dl_717 ?_
    refine lv_if_eq (tgt := 725) hx hb dl_718 (by decide) (fun _ => ?_) (fun q => absurd ((Int32.ofInt_toInt _).trans b2) q)
    refine lv_iconst (v := Int32.ofInt 0) hx hb dl_725 rfl ?_
    refine lw_arg 3 ad hx hb hX hbl hbA hS h0 h3 hi6 hL (by omega) rfl dl_726 dl_727 dl_728 dl_729 dl_730 ?_
    refine lw_call (A := fun q => s.heap.size ≤ q) (h := g1) (z := 301) (idx := 86) (pl := 2200) (k := 173) (ci := 12) (As := [.inl (xs (i + 1)).toInt, .inl 0, .inl (xs (i + 3)).toInt]) (rest := ((am_rvv ad 1 r).toList ++ [])) hx hb hml hown hts hK (fun _ q => q) hR hS hsz am_P_301 am_mi_301 (List.mem_of_getElem? (i := 35) rfl) (by rw [q1]; omega) (by rw [q1]; exact n3) rfl (fun v hv => by simp only [List.mem_cons, List.mem_nil_iff, or_false] at hv; rcases hv with rfl | rfl | rfl <;> first | exact am_r32 _ | exact am_0 | (show am_i32 1; unfold am_i32; omega)) (by show _ ≤ 8; simp [am_rvv, Value.category]) e2 (by rw [q2, q1]) dl_731 (fun H locs hR hS _ => ?_)
    exact lv_icmp_eq (tgt := 1381) hx hb dl_734 (by decide) (fun _ => hE g2 H locs i2 hR hS) (fun q => absurd rfl q)
  · rw [if_neg b2] at e1 e2
    refine lv_aload_n hx hb dl_680 rfl h1 ?_
    refine lw_arg 1 ad hx hb hX hbl hbA hS h0 h3 hi6 hL (by omega) rfl dl_681 dl_682 dl_683 dl_684 dl_685 ?_
    refine lw_arg 2 ad hx hb hX hbl hbA hS h0 h3 hi6 hL (by omega) rfl dl_686 dl_687 dl_688 dl_689 dl_690 ?_
    refine lv_if_eq (tgt := 698) hx hb dl_691 (by decide) (fun q => absurd ((Int32.ofInt_toInt _).symm.trans q) b2) (fun _ => ?_)
    refine lv_iconst (v := Int32.ofInt 1) hx hb dl_694 rfl ?_
    refine lv_goto (tgt := 699) hx hb dl_695 (by decide) ?_
    refine lw_arg 3 ad hx hb hX hbl hbA hS h0 h3 hi6 hL (by omega) rfl dl_699 dl_700 dl_701 dl_702 dl_703 ?_
    refine lw_call (A := fun q => s.heap.size ≤ q) (h := h) (z := 183) (idx := 82) (pl := 1349) (k := 0) (ci := 11) (As := [.inl (xs (i + 1)).toInt, .inl 1, .inl (xs (i + 3)).toInt]) (rest := []) hx hb hml hown hts hK (fun _ q => q) hR hS hsz am_P_183 am_mi_183 (List.mem_of_getElem? (i := 34) rfl) (by omega) n2 rfl (fun v hv => by simp only [List.mem_cons, List.mem_nil_iff, or_false] at hv; rcases hv with rfl | rfl | rfl <;> first | exact am_r32 _ | exact am_0 | (show am_i32 1; unfold am_i32; omega)) (by decide) e1 (by rw [q1]) dl_704 (fun H locs hR hS _ => ?_)
    refine lv_aload_n hx hb dl_707 rfl h2 ?_
    refine lw_arg 1 ad hx hb hX hbl hbA hS h0 h3 hi6 hL (by omega) rfl dl_708 dl_709 dl_710 dl_711 dl_712 ?_
    refine lw_arg 2 ad hx hb hX hbl hbA hS h0 h3 hi6 hL (by omega) rfl dl_713 dl_714 dl_715 dl_716 dl_717 ?_
    refine lv_if_eq (tgt := 725) hx hb dl_718 (by decide) (fun q => absurd ((Int32.ofInt_toInt _).symm.trans q) b2) (fun _ => ?_)
    refine lv_iconst (v := Int32.ofInt 1) hx hb dl_721 rfl ?_
    refine lv_goto (tgt := 726) hx hb dl_722 (by decide) ?_
    refine lw_arg 3 ad hx hb hX hbl hbA hS h0 h3 hi6 hL (by omega) rfl dl_726 dl_727 dl_728 dl_729 dl_730 ?_
    refine lw_call (A := fun q => s.heap.size ≤ q) (h := g1) (z := 301) (idx := 86) (pl := 2200) (k := 173) (ci := 12) (As := [.inl (xs (i + 1)).toInt, .inl 1, .inl (xs (i + 3)).toInt]) (rest := ((am_rvv ad 1 r).toList ++ [])) hx hb hml hown hts hK (fun _ q => q) hR hS hsz am_P_301 am_mi_301 (List.mem_of_getElem? (i := 35) rfl) (by rw [q1]; omega) (by rw [q1]; exact n3) rfl (fun v hv => by simp only [List.mem_cons, List.mem_nil_iff, or_false] at hv; rcases hv with rfl | rfl | rfl <;> first | exact am_r32 _ | exact am_0 | (show am_i32 1; unfold am_i32; omega)) (by show _ ≤ 8; simp [am_rvv, Value.category]) e2 (by rw [q2, q1]) dl_731 (fun H locs hR hS _ => ?_)
    exact lv_icmp_eq (tgt := 1381) hx hb dl_734 (by decide) (fun _ => hE g2 H locs i2 hR hS) (fun q => absurd rfl q)
theorem lw_c17 (Fx : lw_F p s m meth c b L xs D cs ad cls i) (hpl : am_plan Inv) (hpr : am_pr Inv Inv' 184 308 [.inl (xs (i + 1)).toInt, .inl (xs (i + 2)).toInt]) (hE : lw_E p l e s m below meth c b D cs ad cls Inv' 1381 []) : lw_E p l e s m below meth c b D cs ad cls Inv 739 [] := by
  obtain ⟨hx, hb, hml, hown, hts, hK, hX, hbl, hsz, h0, h1, h2, h3, hi6, hL⟩ := Fx
  intro h H locs hi hR hS
  obtain ⟨F, F2, r, g1, g2, e1, q1, e2, q2, i2⟩ := am_pr_use hpr hi
  obtain ⟨n1, n2, n3⟩ := hpl h hi
  have hbA : ¬ (fun q : Nat => s.heap.size ≤ q) b := Nat.not_le.mpr hbl
  refine lv_aload_n hx hb dl_739 rfl h1 ?_
  refine lw_arg 1 ad hx hb hX hbl hbA hS h0 h3 hi6 hL (by omega) rfl dl_740 dl_741 dl_742 dl_743 dl_744 ?_
  refine lw_arg 2 ad hx hb hX hbl hbA hS h0 h3 hi6 hL (by omega) rfl dl_745 dl_746 dl_747 dl_748 dl_749 ?_
  refine lw_call (A := fun q => s.heap.size ≤ q) (h := h) (z := 184) (idx := 87) (pl := 1353) (k := 0) (ci := 11) (As := [.inl (xs (i + 1)).toInt, .inl (xs (i + 2)).toInt]) (rest := []) hx hb hml hown hts hK (fun _ q => q) hR hS hsz am_P_184 am_mi_184 (List.mem_of_getElem? (i := 36) rfl) (by omega) n2 rfl (fun v hv => by simp only [List.mem_cons, List.mem_nil_iff, or_false] at hv; rcases hv with rfl | rfl <;> first | exact am_r32 _ | exact am_0 | (show am_i32 1; unfold am_i32; omega)) (by decide) e1 (by rw [q1]) dl_750 (fun H locs hR hS _ => ?_)
  refine lv_aload_n hx hb dl_753 rfl h2 ?_
  refine lw_arg 1 ad hx hb hX hbl hbA hS h0 h3 hi6 hL (by omega) rfl dl_754 dl_755 dl_756 dl_757 dl_758 ?_
  refine lw_arg 2 ad hx hb hX hbl hbA hS h0 h3 hi6 hL (by omega) rfl dl_759 dl_760 dl_761 dl_762 dl_763 ?_
  refine lw_call (A := fun q => s.heap.size ≤ q) (h := g1) (z := 308) (idx := 90) (pl := 2204) (k := 173) (ci := 12) (As := [.inl (xs (i + 1)).toInt, .inl (xs (i + 2)).toInt]) (rest := ((am_rvv ad 1 r).toList ++ [])) hx hb hml hown hts hK (fun _ q => q) hR hS hsz am_P_308 am_mi_308 (List.mem_of_getElem? (i := 37) rfl) (by rw [q1]; omega) (by rw [q1]; exact n3) rfl (fun v hv => by simp only [List.mem_cons, List.mem_nil_iff, or_false] at hv; rcases hv with rfl | rfl <;> first | exact am_r32 _ | exact am_0 | (show am_i32 1; unfold am_i32; omega)) (by show _ ≤ 8; simp [am_rvv, Value.category]) e2 (by rw [q2, q1]) dl_764 (fun H locs hR hS _ => ?_)
  exact lv_icmp_eq (tgt := 1381) hx hb dl_767 (by decide) (fun _ => hE g2 H locs i2 hR hS) (fun q => absurd rfl q)
theorem lw_c18 (Fx : lw_F p s m meth c b L xs D cs ad cls i) (hpl : am_plan Inv) (hpr : am_pr Inv Inv' 185 309 [.inl (xs (i + 1)).toInt, .inl (xs (i + 2)).toInt]) (hE : lw_E p l e s m below meth c b D cs ad cls Inv' 1381 []) : lw_E p l e s m below meth c b D cs ad cls Inv 772 [] := by
  obtain ⟨hx, hb, hml, hown, hts, hK, hX, hbl, hsz, h0, h1, h2, h3, hi6, hL⟩ := Fx
  intro h H locs hi hR hS
  obtain ⟨F, F2, r, g1, g2, e1, q1, e2, q2, i2⟩ := am_pr_use hpr hi
  obtain ⟨n1, n2, n3⟩ := hpl h hi
  have hbA : ¬ (fun q : Nat => s.heap.size ≤ q) b := Nat.not_le.mpr hbl
  refine lv_aload_n hx hb dl_772 rfl h1 ?_
  refine lw_arg 1 ad hx hb hX hbl hbA hS h0 h3 hi6 hL (by omega) rfl dl_773 dl_774 dl_775 dl_776 dl_777 ?_
  refine lw_arg 2 ad hx hb hX hbl hbA hS h0 h3 hi6 hL (by omega) rfl dl_778 dl_779 dl_780 dl_781 dl_782 ?_
  refine lw_call (A := fun q => s.heap.size ≤ q) (h := h) (z := 185) (idx := 91) (pl := 1380) (k := 0) (ci := 11) (As := [.inl (xs (i + 1)).toInt, .inl (xs (i + 2)).toInt]) (rest := []) hx hb hml hown hts hK (fun _ q => q) hR hS hsz am_P_185 am_mi_185 (List.mem_of_getElem? (i := 38) rfl) (by omega) n2 rfl (fun v hv => by simp only [List.mem_cons, List.mem_nil_iff, or_false] at hv; rcases hv with rfl | rfl <;> first | exact am_r32 _ | exact am_0 | (show am_i32 1; unfold am_i32; omega)) (by decide) e1 (by rw [q1]) dl_783 (fun H locs hR hS _ => ?_)
  refine lv_aload_n hx hb dl_786 rfl h2 ?_
  refine lw_arg 1 ad hx hb hX hbl hbA hS h0 h3 hi6 hL (by omega) rfl dl_787 dl_788 dl_789 dl_790 dl_791 ?_
  refine lw_arg 2 ad hx hb hX hbl hbA hS h0 h3 hi6 hL (by omega) rfl dl_792 dl_793 dl_794 dl_795 dl_796 ?_
  refine lw_call (A := fun q => s.heap.size ≤ q) (h := g1) (z := 309) (idx := 94) (pl := 2232) (k := 173) (ci := 12) (As := [.inl (xs (i + 1)).toInt, .inl (xs (i + 2)).toInt]) (rest := ((am_rvv ad 1 r).toList ++ [])) hx hb hml hown hts hK (fun _ q => q) hR hS hsz am_P_309 am_mi_309 (List.mem_of_getElem? (i := 39) rfl) (by rw [q1]; omega) (by rw [q1]; exact n3) rfl (fun v hv => by simp only [List.mem_cons, List.mem_nil_iff, or_false] at hv; rcases hv with rfl | rfl <;> first | exact am_r32 _ | exact am_0 | (show am_i32 1; unfold am_i32; omega)) (by show _ ≤ 8; simp [am_rvv, Value.category]) e2 (by rw [q2, q1]) dl_797 (fun H locs hR hS _ => ?_)
  exact lv_icmp_eq (tgt := 1381) hx hb dl_800 (by decide) (fun _ => hE g2 H locs i2 hR hS) (fun q => absurd rfl q)
theorem lw_c19 (Fx : lw_F p s m meth c b L xs D cs ad cls i) (hpl : am_plan Inv) (hpr : am_pr Inv Inv' 186 310 [.inl (xs (i + 1)).toInt, .inl (xs (i + 2)).toInt, .inl (xs (i + 3)).toInt]) (hE : lw_E p l e s m below meth c b D cs ad cls Inv' 1381 []) : lw_E p l e s m below meth c b D cs ad cls Inv 805 [] := by
  obtain ⟨hx, hb, hml, hown, hts, hK, hX, hbl, hsz, h0, h1, h2, h3, hi6, hL⟩ := Fx
  intro h H locs hi hR hS
  obtain ⟨F, F2, r, g1, g2, e1, q1, e2, q2, i2⟩ := am_pr_use hpr hi
  obtain ⟨n1, n2, n3⟩ := hpl h hi
  have hbA : ¬ (fun q : Nat => s.heap.size ≤ q) b := Nat.not_le.mpr hbl
  refine lv_aload_n hx hb dl_805 rfl h1 ?_
  refine lw_arg 1 ad hx hb hX hbl hbA hS h0 h3 hi6 hL (by omega) rfl dl_806 dl_807 dl_808 dl_809 dl_810 ?_
  refine lw_arg 2 ad hx hb hX hbl hbA hS h0 h3 hi6 hL (by omega) rfl dl_811 dl_812 dl_813 dl_814 dl_815 ?_
  refine lw_arg 3 ad hx hb hX hbl hbA hS h0 h3 hi6 hL (by omega) rfl dl_816 dl_817 dl_818 dl_819 dl_820 ?_
  refine lw_call (A := fun q => s.heap.size ≤ q) (h := h) (z := 186) (idx := 95) (pl := 1384) (k := 0) (ci := 11) (As := [.inl (xs (i + 1)).toInt, .inl (xs (i + 2)).toInt, .inl (xs (i + 3)).toInt]) (rest := []) hx hb hml hown hts hK (fun _ q => q) hR hS hsz am_P_186 am_mi_186 (List.mem_of_getElem? (i := 40) rfl) (by omega) n2 rfl (fun v hv => by simp only [List.mem_cons, List.mem_nil_iff, or_false] at hv; rcases hv with rfl | rfl | rfl <;> first | exact am_r32 _ | exact am_0 | (show am_i32 1; unfold am_i32; omega)) (by decide) e1 (by rw [q1]) dl_821 (fun H locs hR hS _ => ?_)
  refine lv_aload_n hx hb dl_824 rfl h2 ?_
  refine lw_arg 1 ad hx hb hX hbl hbA hS h0 h3 hi6 hL (by omega) rfl dl_825 dl_826 dl_827 dl_828 dl_829 ?_
  refine lw_arg 2 ad hx hb hX hbl hbA hS h0 h3 hi6 hL (by omega) rfl dl_830 dl_831 dl_832 dl_833 dl_834 ?_
  refine lw_arg 3 ad hx hb hX hbl hbA hS h0 h3 hi6 hL (by omega) rfl dl_835 dl_836 dl_837 dl_838 dl_839 ?_
  refine lw_call (A := fun q => s.heap.size ≤ q) (h := g1) (z := 310) (idx := 99) (pl := 2236) (k := 173) (ci := 12) (As := [.inl (xs (i + 1)).toInt, .inl (xs (i + 2)).toInt, .inl (xs (i + 3)).toInt]) (rest := ((am_rvv ad 1 r).toList ++ [])) hx hb hml hown hts hK (fun _ q => q) hR hS hsz am_P_310 am_mi_310 (List.mem_of_getElem? (i := 41) rfl) (by rw [q1]; omega) (by rw [q1]; exact n3) rfl (fun v hv => by simp only [List.mem_cons, List.mem_nil_iff, or_false] at hv; rcases hv with rfl | rfl | rfl <;> first | exact am_r32 _ | exact am_0 | (show am_i32 1; unfold am_i32; omega)) (by show _ ≤ 8; simp [am_rvv, Value.category]) e2 (by rw [q2, q1]) dl_840 (fun H locs hR hS _ => ?_)
  exact lv_icmp_eq (tgt := 1381) hx hb dl_843 (by decide) (fun _ => hE g2 H locs i2 hR hS) (fun q => absurd rfl q)
theorem lw_c20 (Fx : lw_F p s m meth c b L xs D cs ad cls i) (hpl : am_plan Inv) (hpr : am_pr Inv Inv' 187 311 [.inl (xs (i + 1)).toInt, .inl (xs (i + 2)).toInt]) (hE : lw_E p l e s m below meth c b D cs ad cls Inv' 1381 []) : lw_E p l e s m below meth c b D cs ad cls Inv 848 [] := by
  obtain ⟨hx, hb, hml, hown, hts, hK, hX, hbl, hsz, h0, h1, h2, h3, hi6, hL⟩ := Fx
  intro h H locs hi hR hS
  obtain ⟨F, F2, r, g1, g2, e1, q1, e2, q2, i2⟩ := am_pr_use hpr hi
  obtain ⟨n1, n2, n3⟩ := hpl h hi
  have hbA : ¬ (fun q : Nat => s.heap.size ≤ q) b := Nat.not_le.mpr hbl
  refine lv_aload_n hx hb dl_848 rfl h1 ?_
  refine lw_arg 1 ad hx hb hX hbl hbA hS h0 h3 hi6 hL (by omega) rfl dl_849 dl_850 dl_851 dl_852 dl_853 ?_
  refine lw_arg 2 ad hx hb hX hbl hbA hS h0 h3 hi6 hL (by omega) rfl dl_854 dl_855 dl_856 dl_857 dl_858 ?_
  refine lw_call (A := fun q => s.heap.size ≤ q) (h := h) (z := 187) (idx := 100) (pl := 1389) (k := 0) (ci := 11) (As := [.inl (xs (i + 1)).toInt, .inl (xs (i + 2)).toInt]) (rest := []) hx hb hml hown hts hK (fun _ q => q) hR hS hsz am_P_187 am_mi_187 (List.mem_of_getElem? (i := 42) rfl) (by omega) n2 rfl (fun v hv => by simp only [List.mem_cons, List.mem_nil_iff, or_false] at hv; rcases hv with rfl | rfl <;> first | exact am_r32 _ | exact am_0 | (show am_i32 1; unfold am_i32; omega)) (by decide) e1 (by rw [q1]) dl_859 (fun H locs hR hS _ => ?_)
  refine lv_aload_n hx hb dl_862 rfl h2 ?_
  refine lw_arg 1 ad hx hb hX hbl hbA hS h0 h3 hi6 hL (by omega) rfl dl_863 dl_864 dl_865 dl_866 dl_867 ?_
  refine lw_arg 2 ad hx hb hX hbl hbA hS h0 h3 hi6 hL (by omega) rfl dl_868 dl_869 dl_870 dl_871 dl_872 ?_
  refine lw_call (A := fun q => s.heap.size ≤ q) (h := g1) (z := 311) (idx := 103) (pl := 2240) (k := 173) (ci := 12) (As := [.inl (xs (i + 1)).toInt, .inl (xs (i + 2)).toInt]) (rest := ((am_rvv ad 1 r).toList ++ [])) hx hb hml hown hts hK (fun _ q => q) hR hS hsz am_P_311 am_mi_311 (List.mem_of_getElem? (i := 43) rfl) (by rw [q1]; omega) (by rw [q1]; exact n3) rfl (fun v hv => by simp only [List.mem_cons, List.mem_nil_iff, or_false] at hv; rcases hv with rfl | rfl <;> first | exact am_r32 _ | exact am_0 | (show am_i32 1; unfold am_i32; omega)) (by show _ ≤ 8; simp [am_rvv, Value.category]) e2 (by rw [q2, q1]) dl_873 (fun H locs hR hS _ => ?_)
  exact lv_icmp_eq (tgt := 1381) hx hb dl_876 (by decide) (fun _ => hE g2 H locs i2 hR hS) (fun q => absurd rfl q)
theorem lw_c21 (Fx : lw_F p s m meth c b L xs D cs ad cls i) (hpl : am_plan Inv) (hpr : am_pr Inv Inv' 188 316 [.inl (xs (i + 1)).toInt, .inl (xs (i + 2)).toInt]) (hE : lw_E p l e s m below meth c b D cs ad cls Inv' 1381 []) : lw_E p l e s m below meth c b D cs ad cls Inv 881 [] := by
  obtain ⟨hx, hb, hml, hown, hts, hK, hX, hbl, hsz, h0, h1, h2, h3, hi6, hL⟩ := Fx
  intro h H locs hi hR hS
  obtain ⟨F, F2, r, g1, g2, e1, q1, e2, q2, i2⟩ := am_pr_use hpr hi
  obtain ⟨n1, n2, n3⟩ := hpl h hi
  have hbA : ¬ (fun q : Nat => s.heap.size ≤ q) b := Nat.not_le.mpr hbl
  refine lv_aload_n hx hb dl_881 rfl h1 ?_
  refine lw_arg 1 ad hx hb hX hbl hbA hS h0 h3 hi6 hL (by omega) rfl dl_882 dl_883 dl_884 dl_885 dl_886 ?_
  refine lw_arg 2 ad hx hb hX hbl hbA hS h0 h3 hi6 hL (by omega) rfl dl_887 dl_888 dl_889 dl_890 dl_891 ?_
  refine lw_call (A := fun q => s.heap.size ≤ q) (h := h) (z := 188) (idx := 104) (pl := 1398) (k := 0) (ci := 11) (As := [.inl (xs (i + 1)).toInt, .inl (xs (i + 2)).toInt]) (rest := []) hx hb hml hown hts hK (fun _ q => q) hR hS hsz am_P_188 am_mi_188 (List.mem_of_getElem? (i := 44) rfl) (by omega) n2 rfl (fun v hv => by simp only [List.mem_cons, List.mem_nil_iff, or_false] at hv; rcases hv with rfl | rfl <;> first | exact am_r32 _ | exact am_0 | (show am_i32 1; unfold am_i32; omega)) (by decide) e1 (by rw [q1]) dl_892 (fun H locs hR hS _ => ?_)
  refine lv_aload_n hx hb dl_895 rfl h2 ?_
  refine lw_arg 1 ad hx hb hX hbl hbA hS h0 h3 hi6 hL (by omega) rfl dl_896 dl_897 dl_898 dl_899 dl_900 ?_
  refine lw_arg 2 ad hx hb hX hbl hbA hS h0 h3 hi6 hL (by omega) rfl dl_901 dl_902 dl_903 dl_904 dl_905 ?_
  refine lw_call (A := fun q => s.heap.size ≤ q) (h := g1) (z := 316) (idx := 107) (pl := 2248) (k := 173) (ci := 12) (As := [.inl (xs (i + 1)).toInt, .inl (xs (i + 2)).toInt]) (rest := ((am_rvv ad 1 r).toList ++ [])) hx hb hml hown hts hK (fun _ q => q) hR hS hsz am_P_316 am_mi_316 (List.mem_of_getElem? (i := 45) rfl) (by rw [q1]; omega) (by rw [q1]; exact n3) rfl (fun v hv => by simp only [List.mem_cons, List.mem_nil_iff, or_false] at hv; rcases hv with rfl | rfl <;> first | exact am_r32 _ | exact am_0 | (show am_i32 1; unfold am_i32; omega)) (by show _ ≤ 8; simp [am_rvv, Value.category]) e2 (by rw [q2, q1]) dl_906 (fun H locs hR hS _ => ?_)
  exact lv_icmp_eq (tgt := 1381) hx hb dl_909 (by decide) (fun _ => hE g2 H locs i2 hR hS) (fun q => absurd rfl q)
theorem lw_c22 (Fx : lw_F p s m meth c b L xs D cs ad cls i) (hpl : am_plan Inv) (hpr : am_pr Inv Inv' 189 317 [.inl (xs (i + 1)).toInt]) (hE : lw_E p l e s m below meth c b D cs ad cls Inv' 1381 []) : lw_E p l e s m below meth c b D cs ad cls Inv 914 [] := by
  obtain ⟨hx, hb, hml, hown, hts, hK, hX, hbl, hsz, h0, h1, h2, h3, hi6, hL⟩ := Fx
  intro h H locs hi hR hS
  obtain ⟨F, F2, r, g1, g2, e1, q1, e2, q2, i2⟩ := am_pr_use hpr hi
  obtain ⟨n1, n2, n3⟩ := hpl h hi
  have hbA : ¬ (fun q : Nat => s.heap.size ≤ q) b := Nat.not_le.mpr hbl
  refine lv_aload_n hx hb dl_914 rfl h1 ?_
  refine lw_arg 1 ad hx hb hX hbl hbA hS h0 h3 hi6 hL (by omega) rfl dl_915 dl_916 dl_917 dl_918 dl_919 ?_
  refine lw_call (A := fun q => s.heap.size ≤ q) (h := h) (z := 189) (idx := 108) (pl := 1417) (k := 0) (ci := 11) (As := [.inl (xs (i + 1)).toInt]) (rest := []) hx hb hml hown hts hK (fun _ q => q) hR hS hsz am_P_189 am_mi_189 (List.mem_of_getElem? (i := 46) rfl) (by omega) n2 rfl (fun v hv => by simp only [List.mem_cons, List.mem_nil_iff, or_false] at hv; rcases hv with rfl <;> first | exact am_r32 _ | exact am_0 | (show am_i32 1; unfold am_i32; omega)) (by decide) e1 (by rw [q1]) dl_920 (fun H locs hR hS _ => ?_)
  refine lv_aload_n hx hb dl_923 rfl h2 ?_
  refine lw_arg 1 ad hx hb hX hbl hbA hS h0 h3 hi6 hL (by omega) rfl dl_924 dl_925 dl_926 dl_927 dl_928 ?_
  refine lw_call (A := fun q => s.heap.size ≤ q) (h := g1) (z := 317) (idx := 111) (pl := 2272) (k := 173) (ci := 12) (As := [.inl (xs (i + 1)).toInt]) (rest := ((am_rvv ad 1 r).toList ++ [])) hx hb hml hown hts hK (fun _ q => q) hR hS hsz am_P_317 am_mi_317 (List.mem_of_getElem? (i := 47) rfl) (by rw [q1]; omega) (by rw [q1]; exact n3) rfl (fun v hv => by simp only [List.mem_cons, List.mem_nil_iff, or_false] at hv; rcases hv with rfl <;> first | exact am_r32 _ | exact am_0 | (show am_i32 1; unfold am_i32; omega)) (by show _ ≤ 8; simp [am_rvv, Value.category]) e2 (by rw [q2, q1]) dl_929 (fun H locs hR hS _ => ?_)
  exact lv_icmp_eq (tgt := 1381) hx hb dl_932 (by decide) (fun _ => hE g2 H locs i2 hR hS) (fun q => absurd rfl q)
theorem lw_c23 (Fx : lw_F p s m meth c b L xs D cs ad cls i) (hpl : am_plan Inv) (hpr : am_pr Inv Inv' 190 318 [.inl (xs (i + 1)).toInt, .inl (xs (i + 2)).toInt, .inl (xs (i + 3)).toInt]) (hE : lw_E p l e s m below meth c b D cs ad cls Inv' 1381 []) : lw_E p l e s m below meth c b D cs ad cls Inv 937 [] := by
  obtain ⟨hx, hb, hml, hown, hts, hK, hX, hbl, hsz, h0, h1, h2, h3, hi6, hL⟩ := Fx
  intro h H locs hi hR hS
  obtain ⟨F, F2, r, g1, g2, e1, q1, e2, q2, i2⟩ := am_pr_use hpr hi
  obtain ⟨n1, n2, n3⟩ := hpl h hi
  have hbA : ¬ (fun q : Nat => s.heap.size ≤ q) b := Nat.not_le.mpr hbl
  refine lv_aload_n hx hb dl_937 rfl h1 ?_
  refine lw_arg 1 ad hx hb hX hbl hbA hS h0 h3 hi6 hL (by omega) rfl dl_938 dl_939 dl_940 dl_941 dl_942 ?_
  refine lw_arg 2 ad hx hb hX hbl hbA hS h0 h3 hi6 hL (by omega) rfl dl_943 dl_944 dl_945 dl_946 dl_947 ?_
  refine lw_arg 3 ad hx hb hX hbl hbA hS h0 h3 hi6 hL (by omega) rfl dl_948 dl_949 dl_950 dl_951 dl_952 ?_
  refine lw_call (A := fun q => s.heap.size ≤ q) (h := h) (z := 190) (idx := 112) (pl := 1426) (k := 0) (ci := 11) (As := [.inl (xs (i + 1)).toInt, .inl (xs (i + 2)).toInt, .inl (xs (i + 3)).toInt]) (rest := []) hx hb hml hown hts hK (fun _ q => q) hR hS hsz am_P_190 am_mi_190 (List.mem_of_getElem? (i := 48) rfl) (by omega) n2 rfl (fun v hv => by simp only [List.mem_cons, List.mem_nil_iff, or_false] at hv; rcases hv with rfl | rfl | rfl <;> first | exact am_r32 _ | exact am_0 | (show am_i32 1; unfold am_i32; omega)) (by decide) e1 (by rw [q1]) dl_953 (fun H locs hR hS _ => ?_)
  refine lv_aload_n hx hb dl_956 rfl h2 ?_
  refine lw_arg 1 ad hx hb hX hbl hbA hS h0 h3 hi6 hL (by omega) rfl dl_957 dl_958 dl_959 dl_960 dl_961 ?_
  refine lw_arg 2 ad hx hb hX hbl hbA hS h0 h3 hi6 hL (by omega) rfl dl_962 dl_963 dl_964 dl_965 dl_966 ?_
  refine lw_arg 3 ad hx hb hX hbl hbA hS h0 h3 hi6 hL (by omega) rfl dl_967 dl_968 dl_969 dl_970 dl_971 ?_
  refine lw_call (A := fun q => s.heap.size ≤ q) (h := g1) (z := 318) (idx := 115) (pl := 2276) (k := 173) (ci := 12) (As := [.inl (xs (i + 1)).toInt, .inl (xs (i + 2)).toInt, .inl (xs (i + 3)).toInt]) (rest := ((am_rvv ad 1 r).toList ++ [])) hx hb hml hown hts hK (fun _ q => q) hR hS hsz am_P_318 am_mi_318 (List.mem_of_getElem? (i := 49) rfl) (by rw [q1]; omega) (by rw [q1]; exact n3) rfl (fun v hv => by simp only [List.mem_cons, List.mem_nil_iff, or_false] at hv; rcases hv with rfl | rfl | rfl <;> first | exact am_r32 _ | exact am_0 | (show am_i32 1; unfold am_i32; omega)) (by show _ ≤ 8; simp [am_rvv, Value.category]) e2 (by rw [q2, q1]) dl_972 (fun H locs hR hS _ => ?_)
  exact lv_icmp_eq (tgt := 1381) hx hb dl_975 (by decide) (fun _ => hE g2 H locs i2 hR hS) (fun q => absurd rfl q)
theorem lw_c24 (Fx : lw_F p s m meth c b L xs D cs ad cls i) (hpl : am_plan Inv) (hpr : am_pr Inv Inv' 191 295 [.inl (xs (i + 1)).toInt, .inl (xs (i + 2)).toInt]) (hE : lw_E p l e s m below meth c b D cs ad cls Inv' 1381 []) : lw_E p l e s m below meth c b D cs ad cls Inv 980 [] := by
  obtain ⟨hx, hb, hml, hown, hts, hK, hX, hbl, hsz, h0, h1, h2, h3, hi6, hL⟩ := Fx
  intro h H locs hi hR hS
  obtain ⟨F, F2, r, g1, g2, e1, q1, e2, q2, i2⟩ := am_pr_use hpr hi
  obtain ⟨n1, n2, n3⟩ := hpl h hi
  have hbA : ¬ (fun q : Nat => s.heap.size ≤ q) b := Nat.not_le.mpr hbl
  refine lv_aload_n hx hb dl_980 rfl h1 ?_
  refine lw_arg 1 ad hx hb hX hbl hbA hS h0 h3 hi6 hL (by omega) rfl dl_981 dl_982 dl_983 dl_984 dl_985 ?_
  refine lw_arg 2 ad hx hb hX hbl hbA hS h0 h3 hi6 hL (by omega) rfl dl_986 dl_987 dl_988 dl_989 dl_990 ?_
  refine lw_call (A := fun q => s.heap.size ≤ q) (h := h) (z := 191) (idx := 116) (pl := 1438) (k := 0) (ci := 11) (As := [.inl (xs (i + 1)).toInt, .inl (xs (i + 2)).toInt]) (rest := []) hx hb hml hown hts hK (fun _ q => q) hR hS hsz am_P_191 am_mi_191 (List.mem_of_getElem? (i := 50) rfl) (by omega) n2 rfl (fun v hv => by simp only [List.mem_cons, List.mem_nil_iff, or_false] at hv; rcases hv with rfl | rfl <;> first | exact am_r32 _ | exact am_0 | (show am_i32 1; unfold am_i32; omega)) (by decide) e1 (by rw [q1]) dl_991 (fun H locs hR hS _ => ?_)
  refine lv_aload_n hx hb dl_994 rfl h2 ?_
  refine lw_arg 1 ad hx hb hX hbl hbA hS h0 h3 hi6 hL (by omega) rfl dl_995 dl_996 dl_997 dl_998 dl_999 ?_
  refine lw_arg 2 ad hx hb hX hbl hbA hS h0 h3 hi6 hL (by omega) rfl dl_1000 dl_1001 dl_1002 dl_1003 dl_1004 ?_
  refine lw_call (A := fun q => s.heap.size ≤ q) (h := g1) (z := 295) (idx := 119) (pl := 2152) (k := 173) (ci := 12) (As := [.inl (xs (i + 1)).toInt, .inl (xs (i + 2)).toInt]) (rest := ((am_rvv ad 1 r).toList ++ [])) hx hb hml hown hts hK (fun _ q => q) hR hS hsz am_P_295 am_mi_295 (List.mem_of_getElem? (i := 51) rfl) (by rw [q1]; omega) (by rw [q1]; exact n3) rfl (fun v hv => by simp only [List.mem_cons, List.mem_nil_iff, or_false] at hv; rcases hv with rfl | rfl <;> first | exact am_r32 _ | exact am_0 | (show am_i32 1; unfold am_i32; omega)) (by show _ ≤ 8; simp [am_rvv, Value.category]) e2 (by rw [q2, q1]) dl_1005 (fun H locs hR hS _ => ?_)
  exact lv_icmp_eq (tgt := 1381) hx hb dl_1008 (by decide) (fun _ => hE g2 H locs i2 hR hS) (fun q => absurd rfl q)
theorem lw_c25 (Fx : lw_F p s m meth c b L xs D cs ad cls i) (hpl : am_plan Inv) (hpr : am_pr Inv Inv' 192 296 []) (hE : lw_E p l e s m below meth c b D cs ad cls Inv' 1381 []) : lw_E p l e s m below meth c b D cs ad cls Inv 1013 [] := by
  obtain ⟨hx, hb, hml, hown, hts, hK, hX, hbl, hsz, h0, h1, h2, h3, hi6, hL⟩ := Fx
  intro h H locs hi hR hS
  obtain ⟨F, F2, r, g1, g2, e1, q1, e2, q2, i2⟩ := am_pr_use hpr hi
  obtain ⟨n1, n2, n3⟩ := hpl h hi
  have hbA : ¬ (fun q : Nat => s.heap.size ≤ q) b := Nat.not_le.mpr hbl
  refine lv_aload_n hx hb dl_1013 rfl h1 ?_
  refine lw_call (A := fun q => s.heap.size ≤ q) (h := h) (z := 192) (idx := 120) (pl := 1446) (k := 0) (ci := 11) (As := []) (rest := []) hx hb hml hown hts hK (fun _ q => q) hR hS hsz am_P_192 am_mi_192 (List.mem_of_getElem? (i := 52) rfl) (by omega) n2 rfl (fun v hv => by cases hv) (by decide) e1 (by rw [q1]) dl_1014 (fun H locs hR hS _ => ?_)
  refine lv_aload_n hx hb dl_1017 rfl h2 ?_
  refine lw_call (A := fun q => s.heap.size ≤ q) (h := g1) (z := 296) (idx := 123) (pl := 2164) (k := 173) (ci := 12) (As := []) (rest := ((am_rvv ad 1 r).toList ++ [])) hx hb hml hown hts hK (fun _ q => q) hR hS hsz am_P_296 am_mi_296 (List.mem_of_getElem? (i := 53) rfl) (by rw [q1]; omega) (by rw [q1]; exact n3) rfl (fun v hv => by cases hv) (by show _ ≤ 8; simp [am_rvv, Value.category]) e2 (by rw [q2, q1]) dl_1018 (fun H locs hR hS _ => ?_)
  exact lv_icmp_eq (tgt := 1381) hx hb dl_1021 (by decide) (fun _ => hE g2 H locs i2 hR hS) (fun q => absurd rfl q)
theorem lw_c26 (Fx : lw_F p s m meth c b L xs D cs ad cls i) (hpl : am_plan Inv) (hpr : am_pr Inv Inv' 193 320 []) (hE : lw_E p l e s m below meth c b D cs ad cls Inv' 1381 []) : lw_E p l e s m below meth c b D cs ad cls Inv 1026 [] := by
  obtain ⟨hx, hb, hml, hown, hts, hK, hX, hbl, hsz, h0, h1, h2, h3, hi6, hL⟩ := Fx
  intro h H locs hi hR hS
  obtain ⟨F, F2, r, g1, g2, e1, q1, e2, q2, i2⟩ := am_pr_use hpr hi
  obtain ⟨n1, n2, n3⟩ := hpl h hi
  have hbA : ¬ (fun q : Nat => s.heap.size ≤ q) b := Nat.not_le.mpr hbl
  refine lv_aload_n hx hb dl_1026 rfl h1 ?_
  refine lw_call (A := fun q => s.heap.size ≤ q) (h := h) (z := 193) (idx := 124) (pl := 1455) (k := 0) (ci := 11) (As := []) (rest := []) hx hb hml hown hts hK (fun _ q => q) hR hS hsz am_P_193 am_mi_193 (List.mem_of_getElem? (i := 54) rfl) (by omega) n2 rfl (fun v hv => by cases hv) (by decide) e1 (by rw [q1]) dl_1027 (fun H locs hR hS _ => ?_)
  refine lv_aload_n hx hb dl_1030 rfl h2 ?_
  refine lw_call (A := fun q => s.heap.size ≤ q) (h := g1) (z := 320) (idx := 127) (pl := 2280) (k := 173) (ci := 12) (As := []) (rest := ((am_rvv ad 1 r).toList ++ [])) hx hb hml hown hts hK (fun _ q => q) hR hS hsz am_P_320 am_mi_320 (List.mem_of_getElem? (i := 55) rfl) (by rw [q1]; omega) (by rw [q1]; exact n3) rfl (fun v hv => by cases hv) (by show _ ≤ 8; simp [am_rvv, Value.category]) e2 (by rw [q2, q1]) dl_1031 (fun H locs hR hS _ => ?_)
  exact lv_icmp_eq (tgt := 1381) hx hb dl_1034 (by decide) (fun _ => hE g2 H locs i2 hR hS) (fun q => absurd rfl q)
theorem lw_c27 (Fx : lw_F p s m meth c b L xs D cs ad cls i) (hpl : am_plan Inv) (hpr : am_pr Inv Inv' 194 328 [.inl (xs (i + 1)).toInt, .inl (xs (i + 2)).toInt]) (hE : lw_E p l e s m below meth c b D cs ad cls Inv' 1381 []) : lw_E p l e s m below meth c b D cs ad cls Inv 1039 [] := by
  obtain ⟨hx, hb, hml, hown, hts, hK, hX, hbl, hsz, h0, h1, h2, h3, hi6, hL⟩ := Fx
  intro h H locs hi hR hS
  obtain ⟨F, F2, r, g1, g2, e1, q1, e2, q2, i2⟩ := am_pr_use hpr hi
  obtain ⟨n1, n2, n3⟩ := hpl h hi
  have hbA : ¬ (fun q : Nat => s.heap.size ≤ q) b := Nat.not_le.mpr hbl
  refine lv_aload_n hx hb dl_1039 rfl h1 ?_
  refine lw_arg 1 ad hx hb hX hbl hbA hS h0 h3 hi6 hL (by omega) rfl dl_1040 dl_1041 dl_1042 dl_1043 dl_1044 ?_
  refine lw_arg 2 ad hx hb hX hbl hbA hS h0 h3 hi6 hL (by omega) rfl dl_1045 dl_1046 dl_1047 dl_1048 dl_1049 ?_
  refine lw_call (A := fun q => s.heap.size ≤ q) (h := h) (z := 194) (idx := 128) (pl := 1471) (k := 0) (ci := 11) (As := [.inl (xs (i + 1)).toInt, .inl (xs (i + 2)).toInt]) (rest := []) hx hb hml hown hts hK (fun _ q => q) hR hS hsz am_P_194 am_mi_194 (List.mem_of_getElem? (i := 56) rfl) (by omega) n2 rfl (fun v hv => by simp only [List.mem_cons, List.mem_nil_iff, or_false] at hv; rcases hv with rfl | rfl <;> first | exact am_r32 _ | exact am_0 | (show am_i32 1; unfold am_i32; omega)) (by decide) e1 (by rw [q1]) dl_1050 (fun H locs hR hS _ => ?_)
  refine lv_aload_n hx hb dl_1053 rfl h2 ?_
  refine lw_arg 1 ad hx hb hX hbl hbA hS h0 h3 hi6 hL (by omega) rfl dl_1054 dl_1055 dl_1056 dl_1057 dl_1058 ?_
  refine lw_arg 2 ad hx hb hX hbl hbA hS h0 h3 hi6 hL (by omega) rfl dl_1059 dl_1060 dl_1061 dl_1062 dl_1063 ?_
  refine lw_call (A := fun q => s.heap.size ≤ q) (h := g1) (z := 328) (idx := 132) (pl := 2288) (k := 173) (ci := 12) (As := [.inl (xs (i + 1)).toInt, .inl (xs (i + 2)).toInt]) (rest := ((am_rvv ad 2 r).toList ++ [])) hx hb hml hown hts hK (fun _ q => q) hR hS hsz am_P_328 am_mi_328 (List.mem_of_getElem? (i := 57) rfl) (by rw [q1]; omega) (by rw [q1]; exact n3) rfl (fun v hv => by simp only [List.mem_cons, List.mem_nil_iff, or_false] at hv; rcases hv with rfl | rfl <;> first | exact am_r32 _ | exact am_0 | (show am_i32 1; unfold am_i32; omega)) (by show _ ≤ 8; simp [am_rvv, Value.category]) e2 (by rw [q2, q1]) dl_1064 (fun H locs hR hS _ => ?_)
  refine W.lcmp hx hb dl_1067 ?_
  exact lv_if_eq (tgt := 1381) hx hb dl_1068 (by decide) (fun _ => hE g2 H locs i2 hR hS) (fun q => absurd (by unfold lg_cmp; simp) q)
theorem lw_c28 (Fx : lw_F p s m meth c b L xs D cs ad cls i) (hpl : am_plan Inv) (hpr : am_pr Inv Inv' 195 330 [.inl (xs (i + 1)).toInt, .inl (xs (i + 2)).toInt, .inl (xs (i + 3)).toInt, .inl (xs (i + 4)).toInt]) (hE : lw_E p l e s m below meth c b D cs ad cls Inv' 1381 []) : lw_E p l e s m below meth c b D cs ad cls Inv 1073 [] := by
  obtain ⟨hx, hb, hml, hown, hts, hK, hX, hbl, hsz, h0, h1, h2, h3, hi6, hL⟩ := Fx
  intro h H locs hi hR hS
  obtain ⟨F, F2, r, g1, g2, e1, q1, e2, q2, i2⟩ := am_pr_use hpr hi
  obtain ⟨n1, n2, n3⟩ := hpl h hi
  have hbA : ¬ (fun q : Nat => s.heap.size ≤ q) b := Nat.not_le.mpr hbl
  refine lv_aload_n hx hb dl_1073 rfl h1 ?_
  refine lw_arg 1 ad hx hb hX hbl hbA hS h0 h3 hi6 hL (by omega) rfl dl_1074 dl_1075 dl_1076 dl_1077 dl_1078 ?_
  refine lw_arg 2 ad hx hb hX hbl hbA hS h0 h3 hi6 hL (by omega) rfl dl_1079 dl_1080 dl_1081 dl_1082 dl_1083 ?_
  refine lw_arg 3 ad hx hb hX hbl hbA hS h0 h3 hi6 hL (by omega) rfl dl_1084 dl_1085 dl_1086 dl_1087 dl_1088 ?_
  refine lw_arg 4 ad hx hb hX hbl hbA hS h0 h3 hi6 hL (by omega) rfl dl_1089 dl_1090 dl_1091 dl_1092 dl_1093 ?_
  refine lw_call (A := fun q => s.heap.size ≤ q) (h := h) (z := 195) (idx := 133) (pl := 1521) (k := 0) (ci := 11) (As := [.inl (xs (i + 1)).toInt, .inl (xs (i + 2)).toInt, .inl (xs (i + 3)).toInt, .inl (xs (i + 4)).toInt]) (rest := []) hx hb hml hown hts hK (fun _ q => q) hR hS hsz am_P_195 am_mi_195 (List.mem_of_getElem? (i := 58) rfl) (by omega) n2 rfl (fun v hv => by simp only [List.mem_cons, List.mem_nil_iff, or_false] at hv; rcases hv with rfl | rfl | rfl | rfl <;> first | exact am_r32 _ | exact am_0 | (show am_i32 1; unfold am_i32; omega)) (by decide) e1 (by rw [q1]) dl_1094 (fun H locs hR hS _ => ?_)
  refine lv_aload_n hx hb dl_1097 rfl h2 ?_
  refine lw_arg 1 ad hx hb hX hbl hbA hS h0 h3 hi6 hL (by omega) rfl dl_1098 dl_1099 dl_1100 dl_1101 dl_1102 ?_
  refine lw_arg 2 ad hx hb hX hbl hbA hS h0 h3 hi6 hL (by omega) rfl dl_1103 dl_1104 dl_1105 dl_1106 dl_1107 ?_
  refine lw_arg 3 ad hx hb hX hbl hbA hS h0 h3 hi6 hL (by omega) rfl dl_1108 dl_1109 dl_1110 dl_1111 dl_1112 ?_
  refine lw_arg 4 ad hx hb hX hbl hbA hS h0 h3 hi6 hL (by omega) rfl dl_1113 dl_1114 dl_1115 dl_1116 dl_1117 ?_
  refine lw_call (A := fun q => s.heap.size ≤ q) (h := g1) (z := 330) (idx := 137) (pl := 2311) (k := 173) (ci := 12) (As := [.inl (xs (i + 1)).toInt, .inl (xs (i + 2)).toInt, .inl (xs (i + 3)).toInt, .inl (xs (i + 4)).toInt]) (rest := ((am_rvv ad 1 r).toList ++ [])) hx hb hml hown hts hK (fun _ q => q) hR hS hsz am_P_330 am_mi_330 (List.mem_of_getElem? (i := 59) rfl) (by rw [q1]; omega) (by rw [q1]; exact n3) rfl (fun v hv => by simp only [List.mem_cons, List.mem_nil_iff, or_false] at hv; rcases hv with rfl | rfl | rfl | rfl <;> first | exact am_r32 _ | exact am_0 | (show am_i32 1; unfold am_i32; omega)) (by show _ ≤ 8; simp [am_rvv, Value.category]) e2 (by rw [q2, q1]) dl_1118 (fun H locs hR hS _ => ?_)
  exact lv_icmp_eq (tgt := 1381) hx hb dl_1121 (by decide) (fun _ => hE g2 H locs i2 hR hS) (fun q => absurd rfl q)
theorem lw_c29 (Fx : lw_F p s m meth c b L xs D cs ad cls i) (hpl : am_plan Inv) (hpr : am_pr Inv Inv' 196 331 [.inl (xs (i + 1)).toInt, .inl (xs (i + 2)).toInt, .inl (xs (i + 3)).toInt, .inl (xs (i + 4)).toInt]) (hE : lw_E p l e s m below meth c b D cs ad cls Inv' 1381 []) : lw_E p l e s m below meth c b D cs ad cls Inv 1126 [] := by
  obtain ⟨hx, hb, hml, hown, hts, hK, hX, hbl, hsz, h0, h1, h2, h3, hi6, hL⟩ := Fx
  intro h H locs hi hR hS
  obtain ⟨F, F2, r, g1, g2, e1, q1, e2, q2, i2⟩ := am_pr_use hpr hi
  obtain ⟨n1, n2, n3⟩ := hpl h hi
  have hbA : ¬ (fun q : Nat => s.heap.size ≤ q) b := Nat.not_le.mpr hbl
  refine lv_aload_n hx hb dl_1126 rfl h1 ?_
  refine lw_arg 1 ad hx hb hX hbl hbA hS h0 h3 hi6 hL (by omega) rfl dl_1127 dl_1128 dl_1129 dl_1130 dl_1131 ?_
  refine lw_arg 2 ad hx hb hX hbl hbA hS h0 h3 hi6 hL (by omega) rfl dl_1132 dl_1133 dl_1134 dl_1135 dl_1136 ?_
  refine lw_arg 3 ad hx hb hX hbl hbA hS h0 h3 hi6 hL (by omega) rfl dl_1137 dl_1138 dl_1139 dl_1140 dl_1141 ?_
  refine lw_arg 4 ad hx hb hX hbl hbA hS h0 h3 hi6 hL (by omega) rfl dl_1142 dl_1143 dl_1144 dl_1145 dl_1146 ?_
  refine lw_call (A := fun q => s.heap.size ≤ q) (h := h) (z := 196) (idx := 138) (pl := 1549) (k := 0) (ci := 11) (As := [.inl (xs (i + 1)).toInt, .inl (xs (i + 2)).toInt, .inl (xs (i + 3)).toInt, .inl (xs (i + 4)).toInt]) (rest := []) hx hb hml hown hts hK (fun _ q => q) hR hS hsz am_P_196 am_mi_196 (List.mem_of_getElem? (i := 60) rfl) (by omega) n2 rfl (fun v hv => by simp only [List.mem_cons, List.mem_nil_iff, or_false] at hv; rcases hv with rfl | rfl | rfl | rfl <;> first | exact am_r32 _ | exact am_0 | (show am_i32 1; unfold am_i32; omega)) (by decide) e1 (by rw [q1]) dl_1147 (fun H locs hR hS _ => ?_)
  refine lv_aload_n hx hb dl_1150 rfl h2 ?_
  refine lw_arg 1 ad hx hb hX hbl hbA hS h0 h3 hi6 hL (by omega) rfl dl_1151 dl_1152 dl_1153 dl_1154 dl_1155 ?_
  refine lw_arg 2 ad hx hb hX hbl hbA hS h0 h3 hi6 hL (by omega) rfl dl_1156 dl_1157 dl_1158 dl_1159 dl_1160 ?_
  refine lw_arg 3 ad hx hb hX hbl hbA hS h0 h3 hi6 hL (by omega) rfl dl_1161 dl_1162 dl_1163 dl_1164 dl_1165 ?_
  refine lw_arg 4 ad hx hb hX hbl hbA hS h0 h3 hi6 hL (by omega) rfl dl_1166 dl_1167 dl_1168 dl_1169 dl_1170 ?_
  refine lw_call (A := fun q => s.heap.size ≤ q) (h := g1) (z := 331) (idx := 141) (pl := 2323) (k := 173) (ci := 12) (As := [.inl (xs (i + 1)).toInt, .inl (xs (i + 2)).toInt, .inl (xs (i + 3)).toInt, .inl (xs (i + 4)).toInt]) (rest := ((am_rvv ad 1 r).toList ++ [])) hx hb hml hown hts hK (fun _ q => q) hR hS hsz am_P_331 am_mi_331 (List.mem_of_getElem? (i := 61) rfl) (by rw [q1]; omega) (by rw [q1]; exact n3) rfl (fun v hv => by simp only [List.mem_cons, List.mem_nil_iff, or_false] at hv; rcases hv with rfl | rfl | rfl | rfl <;> first | exact am_r32 _ | exact am_0 | (show am_i32 1; unfold am_i32; omega)) (by show _ ≤ 8; simp [am_rvv, Value.category]) e2 (by rw [q2, q1]) dl_1171 (fun H locs hR hS _ => ?_)
  exact lv_icmp_eq (tgt := 1381) hx hb dl_1174 (by decide) (fun _ => hE g2 H locs i2 hR hS) (fun q => absurd rfl q)
theorem lw_c30 (Fx : lw_F p s m meth c b L xs D cs ad cls i) (hpl : am_plan Inv) (hpr : am_pr Inv Inv' 197 333 [.inl (xs (i + 1)).toInt]) (hE : lw_E p l e s m below meth c b D cs ad cls Inv' 1381 []) : lw_E p l e s m below meth c b D cs ad cls Inv 1179 [] := by
  obtain ⟨hx, hb, hml, hown, hts, hK, hX, hbl, hsz, h0, h1, h2, h3, hi6, hL⟩ := Fx
  intro h H locs hi hR hS
  obtain ⟨F, F2, r, g1, g2, e1, q1, e2, q2, i2⟩ := am_pr_use hpr hi
  obtain ⟨n1, n2, n3⟩ := hpl h hi
  have hbA : ¬ (fun q : Nat => s.heap.size ≤ q) b := Nat.not_le.mpr hbl
  refine lv_aload_n hx hb dl_1179 rfl h1 ?_
  refine lw_arg 1 ad hx hb hX hbl hbA hS h0 h3 hi6 hL (by omega) rfl dl_1180 dl_1181 dl_1182 dl_1183 dl_1184 ?_
  refine lw_call (A := fun q => s.heap.size ≤ q) (h := h) (z := 197) (idx := 142) (pl := 1553) (k := 0) (ci := 11) (As := [.inl (xs (i + 1)).toInt]) (rest := []) hx hb hml hown hts hK (fun _ q => q) hR hS hsz am_P_197 am_mi_197 (List.mem_of_getElem? (i := 62) rfl) (by omega) n2 rfl (fun v hv => by simp only [List.mem_cons, List.mem_nil_iff, or_false] at hv; rcases hv with rfl <;> first | exact am_r32 _ | exact am_0 | (show am_i32 1; unfold am_i32; omega)) (by decide) e1 (by rw [q1]) dl_1185 (fun H locs hR hS _ => ?_)
  refine lv_aload_n hx hb dl_1188 rfl h2 ?_
  refine lw_arg 1 ad hx hb hX hbl hbA hS h0 h3 hi6 hL (by omega) rfl dl_1189 dl_1190 dl_1191 dl_1192 dl_1193 ?_
  refine lw_call (A := fun q => s.heap.size ≤ q) (h := g1) (z := 333) (idx := 146) (pl := 2327) (k := 173) (ci := 12) (As := [.inl (xs (i + 1)).toInt]) (rest := ((am_rvv ad 2 r).toList ++ [])) hx hb hml hown hts hK (fun _ q => q) hR hS hsz am_P_333 am_mi_333 (List.mem_of_getElem? (i := 63) rfl) (by rw [q1]; omega) (by rw [q1]; exact n3) rfl (fun v hv => by simp only [List.mem_cons, List.mem_nil_iff, or_false] at hv; rcases hv with rfl <;> first | exact am_r32 _ | exact am_0 | (show am_i32 1; unfold am_i32; omega)) (by show _ ≤ 8; simp [am_rvv, Value.category]) e2 (by rw [q2, q1]) dl_1194 (fun H locs hR hS _ => ?_)
  refine W.lcmp hx hb dl_1197 ?_
  exact lv_if_eq (tgt := 1381) hx hb dl_1198 (by decide) (fun _ => hE g2 H locs i2 hR hS) (fun q => absurd (by unfold lg_cmp; simp) q)
theorem lw_c31 (Fx : lw_F p s m meth c b L xs D cs ad cls i) (hpl : am_plan Inv) (hpr : am_pr Inv Inv' 198 340 [.inl (xs (i + 1)).toInt]) (hE : lw_E p l e s m below meth c b D cs ad cls Inv' 1381 []) : lw_E p l e s m below meth c b D cs ad cls Inv 1203 [] := by
  obtain ⟨hx, hb, hml, hown, hts, hK, hX, hbl, hsz, h0, h1, h2, h3, hi6, hL⟩ := Fx
  intro h H locs hi hR hS
  obtain ⟨F, F2, r, g1, g2, e1, q1, e2, q2, i2⟩ := am_pr_use hpr hi
  obtain ⟨n1, n2, n3⟩ := hpl h hi
  have hbA : ¬ (fun q : Nat => s.heap.size ≤ q) b := Nat.not_le.mpr hbl
  refine lv_aload_n hx hb dl_1203 rfl h1 ?_
  refine lw_arg 1 ad hx hb hX hbl hbA hS h0 h3 hi6 hL (by omega) rfl dl_1204 dl_1205 dl_1206 dl_1207 dl_1208 ?_
  refine lw_call (A := fun q => s.heap.size ≤ q) (h := h) (z := 198) (idx := 147) (pl := 1649) (k := 0) (ci := 11) (As := [.inl (xs (i + 1)).toInt]) (rest := []) hx hb hml hown hts hK (fun _ q => q) hR hS hsz am_P_198 am_mi_198 (List.mem_of_getElem? (i := 64) rfl) (by omega) n2 rfl (fun v hv => by simp only [List.mem_cons, List.mem_nil_iff, or_false] at hv; rcases hv with rfl <;> first | exact am_r32 _ | exact am_0 | (show am_i32 1; unfold am_i32; omega)) (by decide) e1 (by rw [q1]) dl_1209 (fun H locs hR hS _ => ?_)
  refine lv_aload_n hx hb dl_1212 rfl h2 ?_
  refine lw_arg 1 ad hx hb hX hbl hbA hS h0 h3 hi6 hL (by omega) rfl dl_1213 dl_1214 dl_1215 dl_1216 dl_1217 ?_
  refine lw_call (A := fun q => s.heap.size ≤ q) (h := g1) (z := 340) (idx := 150) (pl := 2364) (k := 173) (ci := 12) (As := [.inl (xs (i + 1)).toInt]) (rest := ((am_rvv ad 1 r).toList ++ [])) hx hb hml hown hts hK (fun _ q => q) hR hS hsz am_P_340 am_mi_340 (List.mem_of_getElem? (i := 65) rfl) (by rw [q1]; omega) (by rw [q1]; exact n3) rfl (fun v hv => by simp only [List.mem_cons, List.mem_nil_iff, or_false] at hv; rcases hv with rfl <;> first | exact am_r32 _ | exact am_0 | (show am_i32 1; unfold am_i32; omega)) (by show _ ≤ 8; simp [am_rvv, Value.category]) e2 (by rw [q2, q1]) dl_1218 (fun H locs hR hS _ => ?_)
  exact lv_icmp_eq (tgt := 1381) hx hb dl_1221 (by decide) (fun _ => hE g2 H locs i2 hR hS) (fun q => absurd rfl q)
theorem lw_c32 (Fx : lw_F p s m meth c b L xs D cs ad cls i) (hpl : am_plan Inv) (hpr : am_pr Inv Inv' 199 344 [.inl (xs (i + 1)).toInt]) (hE : lw_E p l e s m below meth c b D cs ad cls Inv' 1381 []) : lw_E p l e s m below meth c b D cs ad cls Inv 1226 [] := by
  obtain ⟨hx, hb, hml, hown, hts, hK, hX, hbl, hsz, h0, h1, h2, h3, hi6, hL⟩ := Fx
  intro h H locs hi hR hS
  obtain ⟨F, F2, r, g1, g2, e1, q1, e2, q2, i2⟩ := am_pr_use hpr hi
  obtain ⟨n1, n2, n3⟩ := hpl h hi
  have hbA : ¬ (fun q : Nat => s.heap.size ≤ q) b := Nat.not_le.mpr hbl
  refine lv_aload_n hx hb dl_1226 rfl h1 ?_
  refine lw_arg 1 ad hx hb hX hbl hbA hS h0 h3 hi6 hL (by omega) rfl dl_1227 dl_1228 dl_1229 dl_1230 dl_1231 ?_
  refine lw_call (A := fun q => s.heap.size ≤ q) (h := h) (z := 199) (idx := 151) (pl := 1685) (k := 0) (ci := 11) (As := [.inl (xs (i + 1)).toInt]) (rest := []) hx hb hml hown hts hK (fun _ q => q) hR hS hsz am_P_199 am_mi_199 (List.mem_of_getElem? (i := 66) rfl) (by omega) n2 rfl (fun v hv => by simp only [List.mem_cons, List.mem_nil_iff, or_false] at hv; rcases hv with rfl <;> first | exact am_r32 _ | exact am_0 | (show am_i32 1; unfold am_i32; omega)) (by decide) e1 (by rw [q1]) dl_1232 (fun H locs hR hS _ => ?_)
  refine lv_aload_n hx hb dl_1235 rfl h2 ?_
  refine lw_arg 1 ad hx hb hX hbl hbA hS h0 h3 hi6 hL (by omega) rfl dl_1236 dl_1237 dl_1238 dl_1239 dl_1240 ?_
  refine lw_call (A := fun q => s.heap.size ≤ q) (h := g1) (z := 344) (idx := 154) (pl := 2368) (k := 173) (ci := 12) (As := [.inl (xs (i + 1)).toInt]) (rest := ((am_rvv ad 1 r).toList ++ [])) hx hb hml hown hts hK (fun _ q => q) hR hS hsz am_P_344 am_mi_344 (List.mem_of_getElem? (i := 67) rfl) (by rw [q1]; omega) (by rw [q1]; exact n3) rfl (fun v hv => by simp only [List.mem_cons, List.mem_nil_iff, or_false] at hv; rcases hv with rfl <;> first | exact am_r32 _ | exact am_0 | (show am_i32 1; unfold am_i32; omega)) (by show _ ≤ 8; simp [am_rvv, Value.category]) e2 (by rw [q2, q1]) dl_1241 (fun H locs hR hS _ => ?_)
  exact lv_icmp_eq (tgt := 1381) hx hb dl_1244 (by decide) (fun _ => hE g2 H locs i2 hR hS) (fun q => absurd rfl q)
theorem lw_c33 (Fx : lw_F p s m meth c b L xs D cs ad cls i) (hpl : am_plan Inv) (hpr : am_pr Inv Inv' 200 345 [.inl (xs (i + 1)).toInt, .inl (xs (i + 2)).toInt]) (hE : lw_E p l e s m below meth c b D cs ad cls Inv' 1381 []) : lw_E p l e s m below meth c b D cs ad cls Inv 1249 [] := by
  obtain ⟨hx, hb, hml, hown, hts, hK, hX, hbl, hsz, h0, h1, h2, h3, hi6, hL⟩ := Fx
  intro h H locs hi hR hS
  obtain ⟨F, F2, r, g1, g2, e1, q1, e2, q2, i2⟩ := am_pr_use hpr hi
  obtain ⟨n1, n2, n3⟩ := hpl h hi
  have hbA : ¬ (fun q : Nat => s.heap.size ≤ q) b := Nat.not_le.mpr hbl
  refine lv_aload_n hx hb dl_1249 rfl h1 ?_
  refine lw_arg 1 ad hx hb hX hbl hbA hS h0 h3 hi6 hL (by omega) rfl dl_1250 dl_1251 dl_1252 dl_1253 dl_1254 ?_
  refine lw_arg 2 ad hx hb hX hbl hbA hS h0 h3 hi6 hL (by omega) rfl dl_1255 dl_1256 dl_1257 dl_1258 dl_1259 ?_
  refine lw_call (A := fun q => s.heap.size ≤ q) (h := h) (z := 200) (idx := 155) (pl := 1689) (k := 0) (ci := 11) (As := [.inl (xs (i + 1)).toInt, .inl (xs (i + 2)).toInt]) (rest := []) hx hb hml hown hts hK (fun _ q => q) hR hS hsz am_P_200 am_mi_200 (List.mem_of_getElem? (i := 68) rfl) (by omega) n2 rfl (fun v hv => by simp only [List.mem_cons, List.mem_nil_iff, or_false] at hv; rcases hv with rfl | rfl <;> first | exact am_r32 _ | exact am_0 | (show am_i32 1; unfold am_i32; omega)) (by decide) e1 (by rw [q1]) dl_1260 (fun H locs hR hS _ => ?_)
  refine lv_aload_n hx hb dl_1263 rfl h2 ?_
  refine lw_arg 1 ad hx hb hX hbl hbA hS h0 h3 hi6 hL (by omega) rfl dl_1264 dl_1265 dl_1266 dl_1267 dl_1268 ?_
  refine lw_arg 2 ad hx hb hX hbl hbA hS h0 h3 hi6 hL (by omega) rfl dl_1269 dl_1270 dl_1271 dl_1272 dl_1273 ?_
  refine lw_call (A := fun q => s.heap.size ≤ q) (h := g1) (z := 345) (idx := 158) (pl := 2380) (k := 173) (ci := 12) (As := [.inl (xs (i + 1)).toInt, .inl (xs (i + 2)).toInt]) (rest := ((am_rvv ad 1 r).toList ++ [])) hx hb hml hown hts hK (fun _ q => q) hR hS hsz am_P_345 am_mi_345 (List.mem_of_getElem? (i := 69) rfl) (by rw [q1]; omega) (by rw [q1]; exact n3) rfl (fun v hv => by simp only [List.mem_cons, List.mem_nil_iff, or_false] at hv; rcases hv with rfl | rfl <;> first | exact am_r32 _ | exact am_0 | (show am_i32 1; unfold am_i32; omega)) (by show _ ≤ 8; simp [am_rvv, Value.category]) e2 (by rw [q2, q1]) dl_1274 (fun H locs hR hS _ => ?_)
  exact lv_icmp_eq (tgt := 1381) hx hb dl_1277 (by decide) (fun _ => hE g2 H locs i2 hR hS) (fun q => absurd rfl q)
theorem lw_c34 (Fx : lw_F p s m meth c b L xs D cs ad cls i) (hpl : am_plan Inv) (hpr : am_pr Inv Inv' 201 350 [.inl (xs (i + 1)).toInt, .inl (xs (i + 2)).toInt]) (hE : lw_E p l e s m below meth c b D cs ad cls Inv' 1381 []) : lw_E p l e s m below meth c b D cs ad cls Inv 1282 [] := by
  obtain ⟨hx, hb, hml, hown, hts, hK, hX, hbl, hsz, h0, h1, h2, h3, hi6, hL⟩ := Fx
  intro h H locs hi hR hS
  obtain ⟨F, F2, r, g1, g2, e1, q1, e2, q2, i2⟩ := am_pr_use hpr hi
  obtain ⟨n1, n2, n3⟩ := hpl h hi
  have hbA : ¬ (fun q : Nat => s.heap.size ≤ q) b := Nat.not_le.mpr hbl
  refine lv_aload_n hx hb dl_1282 rfl h1 ?_
  refine lw_arg 1 ad hx hb hX hbl hbA hS h0 h3 hi6 hL (by omega) rfl dl_1283 dl_1284 dl_1285 dl_1286 dl_1287 ?_
  refine lw_arg 2 ad hx hb hX hbl hbA hS h0 h3 hi6 hL (by omega) rfl dl_1288 dl_1289 dl_1290 dl_1291 dl_1292 ?_
  refine lw_call (A := fun q => s.heap.size ≤ q) (h := h) (z := 201) (idx := 159) (pl := 1693) (k := 0) (ci := 11) (As := [.inl (xs (i + 1)).toInt, .inl (xs (i + 2)).toInt]) (rest := []) hx hb hml hown hts hK (fun _ q => q) hR hS hsz am_P_201 am_mi_201 (List.mem_of_getElem? (i := 70) rfl) (by omega) n2 rfl (fun v hv => by simp only [List.mem_cons, List.mem_nil_iff, or_false] at hv; rcases hv with rfl | rfl <;> first | exact am_r32 _ | exact am_0 | (show am_i32 1; unfold am_i32; omega)) (by decide) e1 (by rw [q1]) dl_1293 (fun H locs hR hS _ => ?_)
  refine lv_aload_n hx hb dl_1296 rfl h2 ?_
  refine lw_arg 1 ad hx hb hX hbl hbA hS h0 h3 hi6 hL (by omega) rfl dl_1297 dl_1298 dl_1299 dl_1300 dl_1301 ?_
  refine lw_arg 2 ad hx hb hX hbl hbA hS h0 h3 hi6 hL (by omega) rfl dl_1302 dl_1303 dl_1304 dl_1305 dl_1306 ?_
  refine lw_call (A := fun q => s.heap.size ≤ q) (h := g1) (z := 350) (idx := 162) (pl := 2384) (k := 173) (ci := 12) (As := [.inl (xs (i + 1)).toInt, .inl (xs (i + 2)).toInt]) (rest := ((am_rvv ad 1 r).toList ++ [])) hx hb hml hown hts hK (fun _ q => q) hR hS hsz am_P_350 am_mi_350 (List.mem_of_getElem? (i := 71) rfl) (by rw [q1]; omega) (by rw [q1]; exact n3) rfl (fun v hv => by simp only [List.mem_cons, List.mem_nil_iff, or_false] at hv; rcases hv with rfl | rfl <;> first | exact am_r32 _ | exact am_0 | (show am_i32 1; unfold am_i32; omega)) (by show _ ≤ 8; simp [am_rvv, Value.category]) e2 (by rw [q2, q1]) dl_1307 (fun H locs hR hS _ => ?_)
  exact lv_icmp_eq (tgt := 1381) hx hb dl_1310 (by decide) (fun _ => hE g2 H locs i2 hR hS) (fun q => absurd rfl q)
theorem lw_c35 (Fx : lw_F p s m meth c b L xs D cs ad cls i) (hpl : am_plan Inv) (hpr : am_pr Inv Inv' 202 351 [.inl (xs (i + 1)).toInt, .inl (xs (i + 2)).toInt, .inl (xs (i + 3)).toInt]) (hE : lw_E p l e s m below meth c b D cs ad cls Inv' 1381 []) : lw_E p l e s m below meth c b D cs ad cls Inv 1315 [] := by
  obtain ⟨hx, hb, hml, hown, hts, hK, hX, hbl, hsz, h0, h1, h2, h3, hi6, hL⟩ := Fx
  intro h H locs hi hR hS
  obtain ⟨F, F2, r, g1, g2, e1, q1, e2, q2, i2⟩ := am_pr_use hpr hi
  obtain ⟨n1, n2, n3⟩ := hpl h hi
  have hbA : ¬ (fun q : Nat => s.heap.size ≤ q) b := Nat.not_le.mpr hbl
  refine lv_aload_n hx hb dl_1315 rfl h1 ?_
  refine lw_arg 1 ad hx hb hX hbl hbA hS h0 h3 hi6 hL (by omega) rfl dl_1316 dl_1317 dl_1318 dl_1319 dl_1320 ?_
  refine lw_arg 2 ad hx hb hX hbl hbA hS h0 h3 hi6 hL (by omega) rfl dl_1321 dl_1322 dl_1323 dl_1324 dl_1325 ?_
  refine lw_arg 3 ad hx hb hX hbl hbA hS h0 h3 hi6 hL (by omega) rfl dl_1326 dl_1327 dl_1328 dl_1329 dl_1330 ?_
  refine lw_call (A := fun q => s.heap.size ≤ q) (h := h) (z := 202) (idx := 163) (pl := 1743) (k := 0) (ci := 11) (As := [.inl (xs (i + 1)).toInt, .inl (xs (i + 2)).toInt, .inl (xs (i + 3)).toInt]) (rest := []) hx hb hml hown hts hK (fun _ q => q) hR hS hsz am_P_202 am_mi_202 (List.mem_of_getElem? (i := 72) rfl) (by omega) n2 rfl (fun v hv => by simp only [List.mem_cons, List.mem_nil_iff, or_false] at hv; rcases hv with rfl | rfl | rfl <;> first | exact am_r32 _ | exact am_0 | (show am_i32 1; unfold am_i32; omega)) (by decide) e1 (by rw [q1]) dl_1331 (fun H locs hR hS _ => ?_)
  refine lv_aload_n hx hb dl_1334 rfl h2 ?_
  refine lw_arg 1 ad hx hb hX hbl hbA hS h0 h3 hi6 hL (by omega) rfl dl_1335 dl_1336 dl_1337 dl_1338 dl_1339 ?_
  refine lw_arg 2 ad hx hb hX hbl hbA hS h0 h3 hi6 hL (by omega) rfl dl_1340 dl_1341 dl_1342 dl_1343 dl_1344 ?_
  refine lw_arg 3 ad hx hb hX hbl hbA hS h0 h3 hi6 hL (by omega) rfl dl_1345 dl_1346 dl_1347 dl_1348 dl_1349 ?_
  refine lw_call (A := fun q => s.heap.size ≤ q) (h := g1) (z := 351) (idx := 166) (pl := 2404) (k := 173) (ci := 12) (As := [.inl (xs (i + 1)).toInt, .inl (xs (i + 2)).toInt, .inl (xs (i + 3)).toInt]) (rest := ((am_rvv ad 1 r).toList ++ [])) hx hb hml hown hts hK (fun _ q => q) hR hS hsz am_P_351 am_mi_351 (List.mem_of_getElem? (i := 73) rfl) (by rw [q1]; omega) (by rw [q1]; exact n3) rfl (fun v hv => by simp only [List.mem_cons, List.mem_nil_iff, or_false] at hv; rcases hv with rfl | rfl | rfl <;> first | exact am_r32 _ | exact am_0 | (show am_i32 1; unfold am_i32; omega)) (by show _ ≤ 8; simp [am_rvv, Value.category]) e2 (by rw [q2, q1]) dl_1350 (fun H locs hR hS _ => ?_)
  exact lv_icmp_eq (tgt := 1381) hx hb dl_1353 (by decide) (fun _ => hE g2 H locs i2 hR hS) (fun q => absurd rfl q)
theorem lw_c36 (Fx : lw_F p s m meth c b L xs D cs ad cls i) (hpl : am_plan Inv) (hpr : am_pr Inv Inv' 203 240 [.inl (xs (i + 1)).toInt]) (hE : lw_E p l e s m below meth c b D cs ad cls Inv' 1381 []) : lw_E p l e s m below meth c b D cs ad cls Inv 1358 [] := by
  obtain ⟨hx, hb, hml, hown, hts, hK, hX, hbl, hsz, h0, h1, h2, h3, hi6, hL⟩ := Fx
  intro h H locs hi hR hS
  obtain ⟨F, F2, r, g1, g2, e1, q1, e2, q2, i2⟩ := am_pr_use hpr hi
  obtain ⟨n1, n2, n3⟩ := hpl h hi
  have hbA : ¬ (fun q : Nat => s.heap.size ≤ q) b := Nat.not_le.mpr hbl
  refine lv_aload_n hx hb dl_1358 rfl h1 ?_
  refine lw_arg 1 ad hx hb hX hbl hbA hS h0 h3 hi6 hL (by omega) rfl dl_1359 dl_1360 dl_1361 dl_1362 dl_1363 ?_
  refine lw_call (A := fun q => s.heap.size ≤ q) (h := h) (z := 203) (idx := 167) (pl := 1747) (k := 0) (ci := 11) (As := [.inl (xs (i + 1)).toInt]) (rest := []) hx hb hml hown hts hK (fun _ q => q) hR hS hsz am_P_203 am_mi_203 (List.mem_of_getElem? (i := 74) rfl) (by omega) n2 rfl (fun v hv => by simp only [List.mem_cons, List.mem_nil_iff, or_false] at hv; rcases hv with rfl <;> first | exact am_r32 _ | exact am_0 | (show am_i32 1; unfold am_i32; omega)) (by decide) e1 (by rw [q1]) dl_1364 (fun H locs hR hS _ => ?_)
  refine lv_aload_n hx hb dl_1367 rfl h2 ?_
  refine lw_arg 1 ad hx hb hX hbl hbA hS h0 h3 hi6 hL (by omega) rfl dl_1368 dl_1369 dl_1370 dl_1371 dl_1372 ?_
  refine lw_call (A := fun q => s.heap.size ≤ q) (h := g1) (z := 240) (idx := 170) (pl := 1910) (k := 173) (ci := 12) (As := [.inl (xs (i + 1)).toInt]) (rest := ((am_rvv ad 1 r).toList ++ [])) hx hb hml hown hts hK (fun _ q => q) hR hS hsz am_P_240 am_mi_240 (List.mem_of_getElem? (i := 75) rfl) (by rw [q1]; omega) (by rw [q1]; exact n3) rfl (fun v hv => by simp only [List.mem_cons, List.mem_nil_iff, or_false] at hv; rcases hv with rfl <;> first | exact am_r32 _ | exact am_0 | (show am_i32 1; unfold am_i32; omega)) (by show _ ≤ 8; simp [am_rvv, Value.category]) e2 (by rw [q2, q1]) dl_1373 (fun H locs hR hS _ => ?_)
  exact lv_icmp_eq (tgt := 1381) hx hb dl_1376 (by decide) (fun _ => hE g2 H locs i2 hR hS) (fun q => absurd rfl q)
end LW32
