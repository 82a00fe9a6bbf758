/-- the 37 calls: of the class, then of the reference -/
def am_prs (Inv Inv' : am_h → Prop) : Prop := am_pr Inv Inv' 167 223 []
  ∧ (∀ a b c d e : Int, am_i32 a → am_i32 b → am_i32 c → am_i32 d → am_i32 e → am_pr Inv Inv' 168 239 [.inl a, .inl b, .inl c, .inl d, .inl e])
  ∧ (∀ a : Int, am_i32 a → am_pr Inv Inv' 169 253 [.inl a])
  ∧ (∀ a : Int, am_i32 a → am_pr Inv Inv' 170 254 [.inl a])
  ∧ (∀ a b : Int, am_i32 a → (b = 0 ∨ b = 1) → am_pr Inv Inv' 171 255 [.inl a, .inl b])
  ∧ (∀ a b : Int, am_i32 a → am_i32 b → am_pr Inv Inv' 172 256 [.inl a, .inl b])
  ∧ (∀ a : Int, am_i32 a → am_pr Inv Inv' 173 257 [.inl a])
  ∧ am_pr Inv Inv' 174 258 []
  ∧ (∀ a : Int, am_i32 a → am_pr Inv Inv' 175 285 [.inl a])
  ∧ (∀ a b : Int, am_i32 a → am_i32 b → am_pr Inv Inv' 176 286 [.inl a, .inl b])
  ∧ (∀ a b : Int, am_i32 a → am_i32 b → am_pr Inv Inv' 177 287 [.inl a, .inl b])
  ∧ (∀ a b : Int, am_i32 a → am_i32 b → am_pr Inv Inv' 178 289 [.inl a, .inl b])
  ∧ (∀ a : Int, am_i32 a → am_pr Inv Inv' 179 292 [.inl a])
  ∧ (∀ a b : Int, am_i32 a → am_i32 b → am_pr Inv Inv' 180 297 [.inl a, .inl b])
  ∧ (∀ a b : Int, am_i32 a → am_i32 b → am_pr Inv Inv' 181 298 [.inl a, .inl b])
  ∧ (∀ a b : Int, am_i32 a → am_i32 b → am_pr Inv Inv' 182 300 [.inl a, .inl b])
  ∧ (∀ a b c : Int, am_i32 a → (b = 0 ∨ b = 1) → am_i32 c → am_pr Inv Inv' 183 301 [.inl a, .inl b, .inl c])
  ∧ (∀ a b : Int, am_i32 a → am_i32 b → am_pr Inv Inv' 184 308 [.inl a, .inl b])
  ∧ (∀ a b : Int, am_i32 a → am_i32 b → am_pr Inv Inv' 185 309 [.inl a, .inl b])
  ∧ (∀ a b c : Int, am_i32 a → am_i32 b → am_i32 c → am_pr Inv Inv' 186 310 [.inl a, .inl b, .inl c])
  ∧ (∀ a b : Int, am_i32 a → am_i32 b → am_pr Inv Inv' 187 311 [.inl a, .inl b])
  ∧ (∀ a b : Int, am_i32 a → am_i32 b → am_pr Inv Inv' 188 316 [.inl a, .inl b])
  ∧ (∀ a : Int, am_i32 a → am_pr Inv Inv' 189 317 [.inl a])
  ∧ (∀ a b c : Int, am_i32 a → am_i32 b → am_i32 c → am_pr Inv Inv' 190 318 [.inl a, .inl b, .inl c])
  ∧ (∀ a b : Int, am_i32 a → am_i32 b → am_pr Inv Inv' 191 295 [.inl a, .inl b])
  ∧ am_pr Inv Inv' 192 296 []
  ∧ am_pr Inv Inv' 193 320 []
  ∧ (∀ a b : Int, am_i32 a → am_i32 b → am_pr Inv Inv' 194 328 [.inl a, .inl b])
  ∧ (∀ a b c d : Int, am_i32 a → am_i32 b → am_i32 c → am_i32 d → am_pr Inv Inv' 195 330 [.inl a, .inl b, .inl c, .inl d])
  ∧ (∀ a b c d : Int, am_i32 a → am_i32 b → am_i32 c → am_i32 d → am_pr Inv Inv' 196 331 [.inl a, .inl b, .inl c, .inl d])
  ∧ (∀ a : Int, am_i32 a → am_pr Inv Inv' 197 333 [.inl a])
  ∧ (∀ a : Int, am_i32 a → am_pr Inv Inv' 198 340 [.inl a])
  ∧ (∀ a : Int, am_i32 a → am_pr Inv Inv' 199 344 [.inl a])
  ∧ (∀ a b : Int, am_i32 a → am_i32 b → am_pr Inv Inv' 200 345 [.inl a, .inl b])
  ∧ (∀ a b : Int, am_i32 a → am_i32 b → am_pr Inv Inv' 201 350 [.inl a, .inl b])
  ∧ (∀ a b c : Int, am_i32 a → am_i32 b → am_i32 c → am_pr Inv Inv' 202 351 [.inl a, .inl b, .inl c])
  ∧ (∀ a : Int, am_i32 a → am_pr Inv Inv' 203 240 [.inl a])
def am_h0 : am_h := ((0, fun _ => (0, 0), fun _ _ => 0), fun _ _ => 0)
/-- both objects are made -/
def am_made (Inv : am_h → Prop) : Prop := am_S am_P 1600 166 [.inr (.inr 1)] (am_new am_h0 (16, 0)) (fun _ h1 => h1.1.1 = 173 ∧ am_S am_P 1600 222 [.inr (.inr 174)] (am_new h1 (17, 0)) (fun _ h2 => Inv h2))
/-- the law, of the small machine alone -/
def am_Law (J : Nat → am_h → Prop) : Prop := (∀ k, am_plan (J k)) ∧ am_made (J 0) ∧ (∀ k, k < 512 → am_prs (J k) (J (k + 1))) ∧ (∀ k h, J k h → J (k + 1) h)
section LW33
variable {p : Program} {l : Launch} {e : Env} {s : State} {m : MethodId} {below : List Frame} {meth : Method} {c : Code} {b L : Nat} {xs : Nat → Int32} {D : va_G} {cs : Nat → ClassId} {ad : List Nat} {cls : Array Slot} {i : Nat} {Inv Inv' : am_h → Prop} {J : Nat → am_h → Prop}
theorem lw_switch (Fx : lw_F p s m meth c b L xs D cs ad cls i) (hpl : am_plan Inv) (hpr : am_prs Inv Inv') (hii : ∀ h, Inv h → Inv' h) (hE : lw_E p l e s m below meth c b D cs ad cls Inv' 1381 []) : lw_E p l e s m below meth c b D cs ad cls Inv 27 [] := by
  have Fx0 := Fx
  obtain ⟨hx, hb, hml, hown, hts, hK, hX, hbl, hsz, h0, h1, h2, h3, hi6, hL⟩ := Fx
  intro h H locs hi hR hS
  have hbA : ¬ (fun q : Nat => s.heap.size ≤ q) b := Nat.not_le.mpr hbl
  have er : am_i32 (i : Int) := by unfold am_i32; omega
  have ei : ∀ j, am_i32 (xs j).toInt := fun j => am_r32 _
  refine lv_aload_n hx hb dl_27 rfl h0 ?_
  refine lv_iload_n hx hb dl_28 rfl h3 ?_
  refine va_sld hx hb hX hbl hbA hS (am_in er (by omega) (by omega)) dl_29 ?_
  refine lv_bipush (v := 63) hx hb dl_30 (by decide) ?_
  refine lv_iand hx hb dl_32 ?_
  generalize xs (Int32.ofInt (i : Int)).toNatClampNeg &&& 63 = v
  obtain ⟨r0, r1, r2, r3, r4, r5, r6, r7, r8, r9, r10, r11, r12, r13, r14, r15, r16, r17, r18, r19, r20, r21, r22, r23, r24, r25, r26, r27, r28, r29, r30, r31, r32, r33, r34, r35, r36⟩ := hpr
  by_cases q0 : v.toInt = 0
  · refine lv_tableIn hx hb dl_33 (by omega) (by omega) (off := 163) (by rw [q0]; rfl) (tgt := 196) (by decide) ?_
    exact lw_c0 Fx0 hpl (r0) hE h H locs hi hR hS
  by_cases q1 : v.toInt = 1
  · refine lv_tableIn hx hb dl_33 (by omega) (by omega) (off := 176) (by rw [q1]; rfl) (tgt := 209) (by decide) ?_
    exact lw_c1 Fx0 hpl (r1 _ _ _ _ _ (ei _) (ei _) (ei _) (ei _) (ei _)) hE h H locs hi hR hS
  by_cases q2 : v.toInt = 2
  · refine lv_tableIn hx hb dl_33 (by omega) (by omega) (off := 239) (by rw [q2]; rfl) (tgt := 272) (by decide) ?_
    exact lw_c2 Fx0 hpl (r2 _ (ei _)) hE h H locs hi hR hS
  by_cases q3 : v.toInt = 3
  · refine lv_tableIn hx hb dl_33 (by omega) (by omega) (off := 262) (by rw [q3]; rfl) (tgt := 295) (by decide) ?_
    exact lw_c3 Fx0 hpl (r3 _ (ei _)) hE h H locs hi hR hS
  by_cases q4 : v.toInt = 4
  · refine lv_tableIn hx hb dl_33 (by omega) (by omega) (off := 285) (by rw [q4]; rfl) (tgt := 318) (by decide) ?_
    exact lw_c4 Fx0 hpl (r4 _ _ (ei _) (by split <;> simp)) hE h H locs hi hR hS
  by_cases q5 : v.toInt = 5
  · refine lv_tableIn hx hb dl_33 (by omega) (by omega) (off := 334) (by rw [q5]; rfl) (tgt := 367) (by decide) ?_
    exact lw_c5 Fx0 hpl (r5 _ _ (ei _) (ei _)) hE h H locs hi hR hS
  by_cases q6 : v.toInt = 6
  · refine lv_tableIn hx hb dl_33 (by omega) (by omega) (off := 367) (by rw [q6]; rfl) (tgt := 400) (by decide) ?_
    exact lw_c6 Fx0 hpl (r6 _ (ei _)) hE h H locs hi hR hS
  by_cases q7 : v.toInt = 7
  · refine lv_tableIn hx hb dl_33 (by omega) (by omega) (off := 390) (by rw [q7]; rfl) (tgt := 423) (by decide) ?_
    exact lw_c7 Fx0 hpl (r7) hE h H locs hi hR hS
  by_cases q8 : v.toInt = 8
  · refine lv_tableIn hx hb dl_33 (by omega) (by omega) (off := 403) (by rw [q8]; rfl) (tgt := 436) (by decide) ?_
    exact lw_c8 Fx0 hpl (r8 _ (ei _)) hE h H locs hi hR hS
  by_cases q9 : v.toInt = 9
  · refine lv_tableIn hx hb dl_33 (by omega) (by omega) (off := 426) (by rw [q9]; rfl) (tgt := 459) (by decide) ?_
    exact lw_c9 Fx0 hpl (r9 _ _ (ei _) (ei _)) hE h H locs hi hR hS
  by_cases q10 : v.toInt = 10
  · refine lv_tableIn hx hb dl_33 (by omega) (by omega) (off := 459) (by rw [q10]; rfl) (tgt := 492) (by decide) ?_
    exact lw_c10 Fx0 hpl (r10 _ _ (ei _) (ei _)) hE h H locs hi hR hS
  by_cases q11 : v.toInt = 11
  · refine lv_tableIn hx hb dl_33 (by omega) (by omega) (off := 492) (by rw [q11]; rfl) (tgt := 525) (by decide) ?_
    exact lw_c11 Fx0 hpl (r11 _ _ (ei _) (ei _)) hE h H locs hi hR hS
  by_cases q12 : v.toInt = 12
  · refine lv_tableIn hx hb dl_33 (by omega) (by omega) (off := 525) (by rw [q12]; rfl) (tgt := 558) (by decide) ?_
    exact lw_c12 Fx0 hpl (r12 _ (ei _)) hE h H locs hi hR hS
  by_cases q13 : v.toInt = 13
  · refine lv_tableIn hx hb dl_33 (by omega) (by omega) (off := 548) (by rw [q13]; rfl) (tgt := 581) (by decide) ?_
    exact lw_c13 Fx0 hpl (r13 _ _ (ei _) (ei _)) hE h H locs hi hR hS
  by_cases q14 : v.toInt = 14
  · refine lv_tableIn hx hb dl_33 (by omega) (by omega) (off := 581) (by rw [q14]; rfl) (tgt := 614) (by decide) ?_
    exact lw_c14 Fx0 hpl (r14 _ _ (ei _) (ei _)) hE h H locs hi hR hS
  by_cases q15 : v.toInt = 15
  · refine lv_tableIn hx hb dl_33 (by omega) (by omega) (off := 614) (by rw [q15]; rfl) (tgt := 647) (by decide) ?_
    exact lw_c15 Fx0 hpl (r15 _ _ (ei _) (ei _)) hE h H locs hi hR hS
  by_cases q16 : v.toInt = 16
  · refine lv_tableIn hx hb dl_33 (by omega) (by omega) (off := 647) (by rw [q16]; rfl) (tgt := 680) (by decide) ?_
    exact lw_c16 Fx0 hpl (r16 _ _ _ (ei _) (by split <;> simp) (ei _)) hE h H locs hi hR hS
  by_cases q17 : v.toInt = 17
  · refine lv_tableIn hx hb dl_33 (by omega) (by omega) (off := 706) (by rw [q17]; rfl) (tgt := 739) (by decide) ?_
    exact lw_c17 Fx0 hpl (r17 _ _ (ei _) (ei _)) hE h H locs hi hR hS
  by_cases q18 : v.toInt = 18
  · refine lv_tableIn hx hb dl_33 (by omega) (by omega) (off := 739) (by rw [q18]; rfl) (tgt := 772) (by decide) ?_
    exact lw_c18 Fx0 hpl (r18 _ _ (ei _) (ei _)) hE h H locs hi hR hS
  by_cases q19 : v.toInt = 19
  · refine lv_tableIn hx hb dl_33 (by omega) (by omega) (off := 772) (by rw [q19]; rfl) (tgt := 805) (by decide) ?_
    exact lw_c19 Fx0 hpl (r19 _ _ _ (ei _) (ei _) (ei _)) hE h H locs hi hR hS
  by_cases q20 : v.toInt = 20
  · refine lv_tableIn hx hb dl_33 (by omega) (by omega) (off := 815) (by rw [q20]; rfl) (tgt := 848) (by decide) ?_
    exact lw_c20 Fx0 hpl (r20 _ _ (ei _) (ei _)) hE h H locs hi hR hS
  by_cases q21 : v.toInt = 21
  · refine lv_tableIn hx hb dl_33 (by omega) (by omega) (off := 848) (by rw [q21]; rfl) (tgt := 881) (by decide) ?_
    exact lw_c21 Fx0 hpl (r21 _ _ (ei _) (ei _)) hE h H locs hi hR hS
  by_cases q22 : v.toInt = 22
  · refine lv_tableIn hx hb dl_33 (by omega) (by omega) (off := 881) (by rw [q22]; rfl) (tgt := 914) (by decide) ?_
    exact lw_c22 Fx0 hpl (r22 _ (ei _)) hE h H locs hi hR hS
  by_cases q23 : v.toInt = 23
  · refine lv_tableIn hx hb dl_33 (by omega) (by omega) (off := 904) (by rw [q23]; rfl) (tgt := 937) (by decide) ?_
    exact lw_c23 Fx0 hpl (r23 _ _ _ (ei _) (ei _) (ei _)) hE h H locs hi hR hS
  by_cases q24 : v.toInt = 24
  · refine lv_tableIn hx hb dl_33 (by omega) (by omega) (off := 947) (by rw [q24]; rfl) (tgt := 980) (by decide) ?_
    exact lw_c24 Fx0 hpl (r24 _ _ (ei _) (ei _)) hE h H locs hi hR hS
  by_cases q25 : v.toInt = 25
  · refine lv_tableIn hx hb dl_33 (by omega) (by omega) (off := 980) (by rw [q25]; rfl) (tgt := 1013) (by decide) ?_
    exact lw_c25 Fx0 hpl (r25) hE h H locs hi hR hS
  by_cases q26 : v.toInt = 26
  · refine lv_tableIn hx hb dl_33 (by omega) (by omega) (off := 993) (by rw [q26]; rfl) (tgt := 1026) (by decide) ?_
    exact lw_c26 Fx0 hpl (r26) hE h H locs hi hR hS
  by_cases q27 : v.toInt = 27
  · refine lv_tableIn hx hb dl_33 (by omega) (by omega) (off := 1006) (by rw [q27]; rfl) (tgt := 1039) (by decide) ?_
    exact lw_c27 Fx0 hpl (r27 _ _ (ei _) (ei _)) hE h H locs hi hR hS
  by_cases q28 : v.toInt = 28
  · refine lv_tableIn hx hb dl_33 (by omega) (by omega) (off := 1040) (by rw [q28]; rfl) (tgt := 1073) (by decide) ?_
    exact lw_c28 Fx0 hpl (r28 _ _ _ _ (ei _) (ei _) (ei _) (ei _)) hE h H locs hi hR hS
  by_cases q29 : v.toInt = 29
  · refine lv_tableIn hx hb dl_33 (by omega) (by omega) (off := 1093) (by rw [q29]; rfl) (tgt := 1126) (by decide) ?_
    exact lw_c29 Fx0 hpl (r29 _ _ _ _ (ei _) (ei _) (ei _) (ei _)) hE h H locs hi hR hS
  by_cases q30 : v.toInt = 30
  · refine lv_tableIn hx hb dl_33 (by omega) (by omega) (off := 1146) (by rw [q30]; rfl) (tgt := 1179) (by decide) ?_
    exact lw_c30 Fx0 hpl (r30 _ (ei _)) hE h H locs hi hR hS
  by_cases q31 : v.toInt = 31
  · refine lv_tableIn hx hb dl_33 (by omega) (by omega) (off := 1170) (by rw [q31]; rfl) (tgt := 1203) (by decide) ?_
    exact lw_c31 Fx0 hpl (r31 _ (ei _)) hE h H locs hi hR hS
  by_cases q32 : v.toInt = 32
  · refine lv_tableIn hx hb dl_33 (by omega) (by omega) (off := 1193) (by rw [q32]; rfl) (tgt := 1226) (by decide) ?_
    exact lw_c32 Fx0 hpl (r32 _ (ei _)) hE h H locs hi hR hS
  by_cases q33 : v.toInt = 33
  · refine lv_tableIn hx hb dl_33 (by omega) (by omega) (off := 1216) (by rw [q33]; rfl) (tgt := 1249) (by decide) ?_
    exact lw_c33 Fx0 hpl (r33 _ _ (ei _) (ei _)) hE h H locs hi hR hS
  by_cases q34 : v.toInt = 34
  · refine lv_tableIn hx hb dl_33 (by omega) (by omega) (off := 1249) (by rw [q34]; rfl) (tgt := 1282) (by decide) ?_
    exact lw_c34 Fx0 hpl (r34 _ _ (ei _) (ei _)) hE h H locs hi hR hS
  by_cases q35 : v.toInt = 35
  · refine lv_tableIn hx hb dl_33 (by omega) (by omega) (off := 1282) (by rw [q35]; rfl) (tgt := 1315) (by decide) ?_
    exact lw_c35 Fx0 hpl (r35 _ _ _ (ei _) (ei _) (ei _)) hE h H locs hi hR hS
  by_cases q36 : v.toInt = 36
  · refine lv_tableIn hx hb dl_33 (by omega) (by omega) (off := 1325) (by rw [q36]; rfl) (tgt := 1358) (by decide) ?_
    exact lw_c36 Fx0 hpl (r36 _ (ei _)) hE h H locs hi hR hS
  refine lv_tableOut hx hb dl_33 (by omega) (tgt := 1381) (by decide) ?_
  exact hE h H locs (hii h hi) hR hS
theorem lw_loop (hpl : ∀ k, am_plan (J k)) (hpr : ∀ k, k < 512 → am_prs (J k) (J (k + 1))) (hjj : ∀ k h, J k h → J (k + 1) h) (hr : meth.sig.returnType = ret) (hlk : meth.locks = false) : ∀ (n i k : Nat) (cls : Array Slot), L ≤ i + n → i ≤ L ∧ i = 6 * k → p.tables.exec = Jvm.exec ∧ c.code = code ∧ c.maxLocals = 4 ∧ s.vm.findClass R_law = some m.cls ∧ (∀ w ∈ am_Ts, w.before #[Value.ref b] s = true) ∧ am_K D am_cl cs am_C3 am_C4 am_nw s ∧ va_X b L xs s s.heap ∧ b < s.heap.size ∧ L ≤ 3072 → lv_has cls 4 [(0, .ref b), (1, .ref (ad.getD 0 0)), (2, .ref (ad.getD 173 0)), (3, .int (Int32.ofInt (i : Int)))] → lw_E p l e s m below meth c b D cs ad cls (J k) 18 [] := by
  intro n
  induction n with
  | zero =>
    intro i k cls hn hik Fx hl h H locs hi hR hS
    obtain ⟨hi0, hik⟩ := hik
    obtain ⟨hx, hb, hml, hown, hts, hK, hX, hbl, hL⟩ := Fx
    have hbA : ¬ (fun q : Nat => s.heap.size ≤ q) b := Nat.not_le.mpr hbl
    have e0 : Int32.ofNat L - 6 = Int32.ofInt ((L : Int) - 6) := by rw [Int32.ofInt_sub, Int32.ofInt_eq_ofNat]; rfl
    refine lv_iload_n hx hb dl_18 rfl (lv_at hl 3 rfl) ?_
    refine lv_aload_n hx hb dl_19 rfl (lv_at hl 0 rfl) ?_
    refine va_slen hx hb hX hbl hbA hS dl_20 ?_
    refine lv_bipush (v := 6) hx hb dl_21 (by decide) ?_
    refine lv_isub hx hb dl_23 ?_
    rw [e0]
    refine lv_icmp_gt (tgt := 1387) hx hb dl_24 (by decide) (fun _ => ?_) (fun q => absurd ((am_lt32 (by unfold am_i32; omega) (by unfold am_i32; omega)).mpr (by omega)) q)
    refine lv_iconst (v := 1) hx hb dl_1387 (by decide) ?_
    exact va_forget hS.2.2 (lw_ret hx hb hr hlk dl_1388)
  | succ n ih =>
    intro i k cls hn hik Fx hl h H locs hi hR hS
    obtain ⟨hi0, hik⟩ := hik
    have Fx0 := Fx
    obtain ⟨hx, hb, hml, hown, hts, hK, hX, hbl, hL⟩ := Fx
    have hbA : ¬ (fun q : Nat => s.heap.size ≤ q) b := Nat.not_le.mpr hbl
    have e0 : Int32.ofNat L - 6 = Int32.ofInt ((L : Int) - 6) := by rw [Int32.ofInt_sub, Int32.ofInt_eq_ofNat]; rfl
    refine lv_iload_n hx hb dl_18 rfl (lv_at hl 3 rfl) ?_
    refine lv_aload_n hx hb dl_19 rfl (lv_at hl 0 rfl) ?_
    refine va_slen hx hb hX hbl hbA hS dl_20 ?_
    refine lv_bipush (v := 6) hx hb dl_21 (by decide) ?_
    refine lv_isub hx hb dl_23 ?_
    rw [e0]
    refine lv_icmp_gt (tgt := 1387) hx hb dl_24 (by decide) (fun _ => ?_) (fun q => ?_)
    · refine lv_iconst (v := 1) hx hb dl_1387 (by decide) ?_
      exact va_forget hS.2.2 (lw_ret hx hb hr hlk dl_1388)
    · have q2 : i + 6 ≤ L := by
        have q3 : ¬ ((L : Int) - 6 < (i : Int)) := fun z => q ((am_lt32 (by unfold am_i32; omega) (by unfold am_i32; omega)).mpr z)
        omega
      refine lw_switch ⟨hx, hb, hml, hown, hts, hK, hX, hbl, hl.1, lv_at hl 0 rfl, lv_at hl 1 rfl, lv_at hl 2 rfl, lv_at hl 3 rfl, q2, hL⟩ (hpl k) (hpr k (by omega)) (hjj k) ?_ h H locs hi hR hS
      intro h2 H2 locs2 hi2 hR2 hS2
      refine lv_iinc (v := Int32.ofInt ((i + 6 : Nat) : Int)) (lv' := [(3, .int (Int32.ofInt ((i + 6 : Nat) : Int))), (0, .ref b), (1, .ref (ad.getD 0 0)), (2, .ref (ad.getD 173 0))]) hx hb dl_1381 hl (k := 3) rfl (by rw [← Int32.ofInt_add]; congr 1) (by decide) rfl (fun cls2 hl2 => ?_)
      refine lv_goto (tgt := 18) hx hb dl_1384 (by decide) ?_
      exact ih (i + 6) (k + 1) cls2 (by omega) ⟨q2, by omega⟩ Fx0 (lv_sub hl2 [1, 2, 3, 0] rfl) h2 H2 locs2 hi2 hR2 hS2
/-- a new object, in the law -/
theorem lw_new {A : Nat → Prop} {h : am_h} {H : Heap} {locs : List Loc} {cells slots pc ci idx : Nat} {Q : State → Prop} {rest : List Value} {C : String} {T : u_T} {N : Nat} (hx : p.tables.exec = Jvm.exec) (hb : c.code = code) (hown : s.vm.findClass R_law = some m.cls) (hts : ∀ w ∈ am_Ts, w.before #[Value.ref b] s = true) (hK : am_K D am_cl cs am_C3 am_C4 am_nw s) (hA : ∀ q, s.heap.size ≤ q → A q) (hR : am_RP D am_cl am_ft cs A ad h H) (hS : va_S A s.heap H locs) (hc : am_cl[ci]? = some (C, T, N)) (w1 : Cond.classLink R_law idx C ∈ am_Ts) (w2 : Cond.instantiable C N ∈ am_Ts) (w3 : Cond.initialized C ∈ am_Ts) (hcb : cells + 1 ≤ 600000) (hsb : slots + N ≤ 7302250) (hd : decode code pc = .ok (.new idx, 3))
    (kk : ∀ q H1, am_RP D am_cl am_ft cs A (ad ++ [q]) (am_new h (ci + 5, 0)) H1 → va_S A s.heap H1 locs → W p l e room_1 s m #[Value.ref b] below meth c H1 locs (cells + 1) (slots + N) Q (F0 m (pc + 3) cls (.ref q :: rest))) : W p l e room_1 s m #[Value.ref b] below meth c H locs cells slots Q (F0 m pc cls rest) := by
  obtain ⟨hlen, hP, hD, hM⟩ := hR
  obtain ⟨hin, ty0, hty, hnmq, hln, htk⟩ := am_clOK_ok ci C T N hc
  refine va_new hx hb hts hin ty0 hty hown (hts _ w1) (hts _ w2) (hts _ w3) hK.1 hP hD hS hA hc (fs := am_fs ad (fun _ => 0) (fun _ => 0) (am_ft ci) 0) (fun j hj => ?_) hcb hsb hd (fun q H1 hP1 hD1 hS1 => ?_)
  · obtain ⟨u, hu⟩ : ∃ u, (am_ft ci)[j]? = some u := ⟨_, List.getElem?_eq_getElem (by rw [hln]; exact hj)⟩
    unfold vp_V
    rw [List.getD_eq_getElem?_getD, am_fs_get ad (fun _ => 0) (fun _ => 0) (am_ft ci) 0 j u hu]
    have tk := htk j u hu
    match u, tk with
    | 0, tk => rw [show ty0 j = .int from tk]; rfl
    | 1, tk => rw [show ty0 j = .long from tk]; rfl
    | 2, tk => rcases tk with ⟨C', e⟩ | ⟨u', e⟩ <;> rw [e] <;> rfl
    | 3, tk => rw [show ty0 j = .boolean from tk]; rfl
  · have k0 := am_RP_new (ad0 := ad) (t := []) (z := (ci + 5, 0)) (q := q) (by rw [List.append_nil]; exact hlen) hM (by rw [List.append_nil]; exact hP1) (by rw [List.append_nil]; exact hD1)
    exact kk q H1 k0 hS1
/-- a constructor, in the law -/
theorem lw_ctor {A : Nat → Prop} {h h1 : am_h} {H : Heap} {locs : List Loc} {cells slots pc : Nat} {Q : State → Prop} (hx : p.tables.exec = Jvm.exec) (hb : c.code = code) (hml : c.maxLocals = 4) (hown : s.vm.findClass R_law = some m.cls) (hts : ∀ w ∈ am_Ts, w.before #[Value.ref b] s = true) (hK : am_K D am_cl cs am_C3 am_C4 am_nw s) (hA : ∀ q, s.heap.size ≤ q → A q) (hR : am_RP D am_cl am_ft cs A ad h H) (hS : va_S A s.heap H locs) (hsz : cls.size = 4)
    {z idx pl k F : Nat} {cdz : List (Nat × am_e)} {mLz mcz msz ci : Nat} {r : Int} {rest : List Value} (hz : am_P z = some (cdz, mLz, 0, mcz, msz)) (hmi : am_mi z = (2, 0, ci)) (hl : (idx, z, pl) ∈ am_LLa) (hk : k < h.1.1) (hw : (rest.map fun v => v.category).sum ≤ 8)
    (hcal : am_call am_P 1600 F z [.inr (.inr (k + 1))] h = some (r, h1)) (hcb : cells + mcz ≤ 600000) (hsb : slots + msz ≤ 7302250) (hd : decode code pc = .ok (.invokespecial idx, 3))
    (kk : ∀ t' H1 locs1, am_RP D am_cl am_ft cs A (ad ++ t') h1 H1 → va_S A s.heap H1 locs1 → W p l e room_1 s m #[Value.ref b] below meth c H1 locs1 (cells + mcz) (slots + msz) Q (F0 m (pc + 3) cls rest)) :
    W p l e room_1 s m #[Value.ref b] below meth c H locs cells slots Q (F0 m pc cls (.ref (ad.getD k 0) :: rest)) := by
  obtain ⟨hsite, hpl, hcn, hrt, -, -, hk2, -⟩ := am_TOK_ok.2.2.2.2.2.2.2.2.2.2.2.2.2.2.2.2.2 z cdz mLz 0 mcz msz hz
  obtain ⟨w2, wn, wr⟩ := hk2 (by show (am_mi z).1 = 2; rw [hmi])
  have wr : am_rT z = none := wr
  have hsite : am_site am_Ts (am_nm z) (am_bz z) mLz (am_rT z) (am_mi z).2.1 := hsite
  rw [hmi, wr] at hsite
  obtain ⟨s1, s2, s3, s4⟩ := hsite
  have hG := am_TOK_ok.2.2.2.2.2.2.2.2.2.2.2.2.2.2.2.2.1
  have hG2 : GoodIn am_Ts (.code (am_nm z) (am_bz z) mLz none :: am_Ts) := am_goodIn hG (fun w hw => by
    rcases List.mem_cons.mp hw with rfl | q
    · exact s2
    · exact q)
  have ev : am_cv ad (.inr (.inr (k + 1))) = .ref (ad.getD k 0) := by show va_rf _ = _; rw [am_rv_at (by rw [hR.1]; omega)]; rfl
  have cb0 := callB_of (R := room_1) (rm := am_rm 1600 mcz msz) (mc := mcz) (ms := msz) 0 hts hG2 rfl rfl rfl (hts _ s1) (hts _ (am_LL hl)) s3 ⟨by show 1600 + 1 ≤ 2048; omega, by show 8 + (mLz + 11) + 1600 * 50 ≤ 84000; omega⟩
  have hM := am_snd (D := D) (cs := cs) (A := A) l am_TOK_ok 1600 F z [.inr (.inr (k + 1))] h r h1 hcal cdz mLz 0 mcz msz hz ad (List.forall_mem_cons.mpr ⟨by show k + 1 ≤ h.1.1; omega, fun v hv => by cases hv⟩)
  have hM : Met l (am_nm z) (.code (am_nm z) (am_bz z) mLz (am_rT z) :: am_Ts) (am_rm 1600 mcz msz) (am_Pc D am_cl am_ft cs A am_C3 am_C4 am_nw ad [.inr (.inr (k + 1))] h) (am_Qc D am_cl am_ft cs A ad 0 r h1) mcz msz A := hM
  rw [wr] at hM
  have hrun := va_runI (rest := rest) (g := F0 m pc cls (.ref (ad.getD k 0) :: rest)) (locs := locs) (cells := cells) (slots := slots) (e := e) (below := below) (meth := meth) ⟨hx, hb, hml, hown, hts⟩ hM ⟨cb0, wn, hts _ w2⟩ (H := H) (b := ad.getD k 0) (As := []) ⟨am_Pc_blind, fun U hU hW => ⟨by rw [List.map_cons, ev]; rfl, by rw [hU]; exact hR, hK.warm hW, fun q hq => by rw [hU] at hq; exact hA q (Nat.le_trans hS.1 hq)⟩⟩ rfl rfl hsz rfl (lv_room hw) hd ⟨hcb, hsb⟩
  intro TT hT X
  obtain ⟨v, st₀, tt, T', L, h0, X', hLf, e1, e2, ⟨⟨t', hv, hRP, hrk⟩, hzz, hkk2⟩, stp⟩ := hrun TT hT X
  have hv := Outcome.returned.inj hv
  subst hv
  rw [h0] at hzz hkk2
  obtain ⟨t2, a1, b1⟩ := kk t' T'.heap (locs ++ L) (by rw [e1]; exact hRP)
    ⟨Nat.le_trans hS.1 (by rw [e1]; exact hzz), fun q g1 g2 => by rw [e1, hkk2 q (Nat.lt_of_lt_of_le g1 hS.1) g2]; exact hS.2.1 q g1 g2, fun q hq => by
      rcases List.mem_append.mp hq with g | g
      · exact hS.2.2 q g
      · exact hLf q g⟩ T' rfl X'
  exact ⟨t2, stp t2 a1, b1⟩
end LW33
theorem lw_w1 : am_wB 191 (.classLink R_law 7 "SentenceMaker") = true := by decide +kernel
theorem lw_w2 : am_wB 192 (.instantiable "SentenceMaker" 18) = true := by decide +kernel
theorem lw_w3 : am_wB 172 (.initialized "SentenceMaker") = true := by decide +kernel
theorem lw_w4 : am_wB 1751 (.classLink R_law 10 "SentenceMakerModel") = true := by decide +kernel
theorem lw_w5 : am_wB 1752 (.instantiable "SentenceMakerModel" 46) = true := by decide +kernel
theorem lw_w6 : am_wB 184 (.initialized "SentenceMakerModel") = true := by decide +kernel
theorem lw_w7 : lw_tbl[275]? = some (.arrayOver (.object am_C3)) := by decide +kernel
theorem lw_w8 : lw_tbl[360]? = some (.arrayOver (.object am_C4)) := by decide +kernel
theorem lw_w9 : am_nw.all (fun q => ([278, 362, 435] : List Nat).any (fun i => decide (lw_tbl[i]? = some (.methodLinkNest q.1 q.2.1 q.2.2.1 q.2.2.2)))) = true := by decide +kernel
theorem lw_w10 : (List.range 13).all (fun k => match am_cl[k]? with
    | some (C, _, N) => am_wB (am_inL.getD k (0, 0)).1 (.instantiable C N)
    | none => false) = true := by decide +kernel
/-- the classes' numbers, at the law's entry -/
theorem lw_K {s : State} {b : Nat} (hts : ∀ w ∈ lw_tbl, w.before #[Value.ref b] s = true) : ∃ (D : va_G) (cs : Nat → ClassId), am_K D am_cl cs am_C3 am_C4 am_nw s := by
  have ht : ∀ w ∈ am_Ts, w.before #[Value.ref b] s = true := fun w hw => hts w (List.mem_filter.mp hw).1
  have h1 : ∀ k : Nat, ∃ q : ClassId × (Nat → Nat), ∀ r : vw_C, am_cl[k]? = some r → u_Kn s r.1 r.2.1 r.2.2 q.1 q.2 := by
    intro k
    cases hk : am_cl[k]? with
    | none => exact ⟨(0, fun _ => 0), fun r hr => by cases hr⟩
    | some r =>
      obtain ⟨C, T, N⟩ := r
      have hlt : k < am_cl.length := (List.getElem?_eq_some_iff.mp hk).1
      have hb := List.all_eq_true.mp lw_w10 k (List.mem_range.mpr hlt)
      rw [hk] at hb
      obtain ⟨c0, iS, hq⟩ := u_known (C := C) (T := T) (N := N) (n := N) ht (am_clOK_ok k C T N hk).1 (ht _ (am_wB_ok hb))
      exact ⟨(c0, iS), fun r hr => by cases hr; exact hq⟩
  obtain ⟨f, hf⟩ := Classical.axiomOfChoice h1
  obtain ⟨cI, kI, pI, a1, a2, a3⟩ := Cond.arrayClass_spec (ht _ (am_wB_ok am_w6))
  obtain ⟨cJ, kJ, pJ, b1, b2, b3⟩ := Cond.arrayClass_spec (ht _ (am_wB_ok am_w7))
  obtain ⟨cB, kB, pB, c1, c2, c3⟩ := Cond.arrayClass_spec (ht _ (am_wB_ok am_w8))
  have o3 := hts _ (List.mem_of_getElem? lw_w7)
  have o4 := hts _ (List.mem_of_getElem? lw_w8)
  obtain ⟨p3, c3', k3, d1, -, d3, d4, d5⟩ := Cond.arrayOver_spec o3
  obtain ⟨p4, c4', k4, e1, -, e3, e4, e5⟩ := Cond.arrayOver_spec o4
  refine ⟨(fun k => (f k).1, fun k => (f k).2), fun k => if k = 0 then cI else if k = 1 then cJ else if k = 2 then cB else if k = 3 then c3' else c4', ⟨fun k r hr => hf k r hr, fun k q hq => ?_⟩, va_AO.of o3, va_AO.of o4, fun q hq => ?_⟩
  · match k, hq with
    | 0, hq => cases hq; exact ⟨fun n z => ⟨fun k h => (by cases h), kI, a2, pI, a3⟩, a1⟩
    | 1, hq => cases hq; exact ⟨fun n z => ⟨fun k h => (by cases h), kJ, b2, pJ, b3⟩, b1⟩
    | 2, hq => cases hq; exact ⟨fun n z => ⟨fun k h => (by cases h), kB, c2, pB, c3⟩, c1⟩
    | 3, hq => cases hq; exact ⟨fun n z => ⟨fun k h => (by cases h), k3, d3, p3, d4⟩, k3, p3, d3, d4, d1, d5⟩
    | 4, hq => cases hq; exact ⟨fun n z => ⟨fun k h => (by cases h), k4, e3, p4, e4⟩, k4, p4, e3, e4, e1, e5⟩
    | k + 5, hq => simp [am_tys] at hq
  · have hb := List.all_eq_true.mp lw_w9 q hq
    obtain ⟨i, -, hi⟩ := List.any_eq_true.mp hb
    exact va_Nw.of rfl (hts _ (List.mem_of_getElem? (of_decide_eq_true hi)))
set_option maxHeartbeats 4000000 in
/-- the law's body, where the small machine's law holds -/
theorem whole_start_open {J : Nat → am_h → Prop} (hLaw : am_Law J) {p : Program} {e : Env} {s : State} {m : MethodId} {below : List Frame} {meth : Method} {c : Code} (l : Launch) {b L : Nat} {xs : Nat → Int32} (hL : L ≤ 3072) (C0 : lw_At p s m meth c b L xs) : W p l e room_1 s m #[Value.ref b] below meth c s.heap [] 0 0 (lw_Z below #[Value.ref b] s) (entryFrame m ([Value.ref b] : List Value).toArray 4) := by
  obtain ⟨hx, hb, hr, hml, hown, hts, hX, hbl, hlocks, hgv⟩ := C0
  obtain ⟨D, cs, hK⟩ := lw_K hts
  have ht : ∀ w ∈ am_Ts, w.before #[Value.ref b] s = true := fun w hw => hts w (List.mem_filter.mp hw).1
  obtain ⟨hpl, ⟨F1, r1, h1, e1, g1, F2, r2, h2, e2, i2⟩, hpr, hjj⟩ := hLaw
  have hA : ∀ q : Nat, s.heap.size ≤ q → (fun q : Nat => s.heap.size ≤ q) q := fun _ h => h
  have hS : va_S (fun q : Nat => s.heap.size ≤ q) s.heap s.heap [] := va_S.rf
  have hR : am_RP D am_cl am_ft cs (fun q : Nat => s.heap.size ≤ q) [] am_h0 s.heap := ⟨rfl, fun k q h => by simp [am_wl, am_h0] at h, ⟨fun i j p q h => by simp [am_wl, am_h0] at h, fun k q h => by simp [am_wl, am_h0] at h⟩, fun k hk => by simp [am_h0] at hk⟩
  have hl := lv_entry ([.ref b]) (n := 4) (Nat.le_of_ble_eq_true rfl)
  rw [lg_entry_eq]
  generalize (lg_sl ([.ref b]) ++ List.replicate (4 - (lg_sl ([.ref b])).length) Slot.unset).toArray = ls at hl ⊢
  have hl : lv_has ls 4 [(0, .ref b)] := hl
  refine lw_new (ci := 11) (C := "SentenceMaker") (T := am_fT11) (N := 18) hx hb hown ht hK hA hR hS rfl (am_wB_ok lw_w1) (am_wB_ok lw_w2) (am_wB_ok lw_w3) (by omega) (by omega) dl_0 (fun q0 H hR hS => ?_)
  refine lv_dup hx hb dl_3 rfl ?_
  refine lw_ctor (ad := [] ++ [q0]) (k := 0) (z := 166) (pl := 193) (rest := [.ref q0]) hx hb hml hown ht hK hA hR hS hl.1 am_P_166 am_mi_166 (List.mem_of_getElem? (i := 0) rfl) (by show 0 < 0 + 1; omega) (by show _ ≤ 8; simp [Value.category]) e1 (by omega) (by omega) dl_4 (fun t1 H locs hR hS => ?_)
  refine lv_astore_n (lv' := [(1, .ref q0), (0, .ref b)]) hx hb dl_7 rfl hl (by decide) rfl (fun ls hl => ?_)
  refine lw_new (ci := 12) (C := "SentenceMakerModel") (T := am_fT12) (N := 46) hx hb hown ht hK hA hR hS rfl (am_wB_ok lw_w4) (am_wB_ok lw_w5) (am_wB_ok lw_w6) (by omega) (by omega) dl_8 (fun q1 H hR hS => ?_)
  refine lv_dup hx hb dl_11 rfl ?_
  have hlen : ([] ++ [q0] ++ t1).length = 173 := by
    have q := hR.1
    have q2 : (am_new h1 (17, 0)).1.1 = h1.1.1 + 1 := rfl
    rw [List.length_append, q2, g1] at q
    simpa using q
  have ea : ([] ++ [q0] ++ t1 ++ [q1]).getD 173 0 = q1 := by rw [List.getD_eq_getElem?_getD, List.getElem?_append_right (by omega), hlen, Nat.sub_self]; rfl
  have kctor := fun K => lw_ctor (l := l) (e := e) (below := below) (meth := meth) (cls := ls) (cells := 0 + 1 + 172 + 1) (slots := 0 + 18 + 29000 + 46) (Q := lw_Z below #[Value.ref b] s) (ad := [] ++ [q0] ++ t1 ++ [q1]) (k := 173) (z := 222) (pl := 1753) (rest := [.ref q1]) hx hb hml hown ht hK hA hR hS hl.1 am_P_222 am_mi_222 (List.mem_of_getElem? (i := 1) rfl) (by show 173 < h1.1.1 + 1; omega) (by show _ ≤ 8; simp [Value.category]) e2 (by omega) (by omega) dl_12 K
  rw [ea] at kctor
  refine kctor (fun t2 H locs hR hS => ?_)
  refine lv_astore_n (lv' := [(2, .ref q1), (1, .ref q0), (0, .ref b)]) hx hb dl_15 rfl hl (by decide) rfl (fun ls hl => ?_)
  refine lv_iconst (v := Int32.ofInt ((0 : Nat) : Int)) hx hb dl_16 (by decide) ?_
  refine lv_istore_n (lv' := [(3, .int (Int32.ofInt ((0 : Nat) : Int))), (2, .ref q1), (1, .ref q0), (0, .ref b)]) hx hb dl_17 rfl hl (by decide) rfl (fun ls hl => ?_)
  refine W.widen (k := 600000) (n := 7302250) (by omega) (by omega) ?_
  have ea0 : ([] ++ [q0] ++ t1 ++ [q1] ++ t2).getD 0 0 = q0 := by simp
  have ea1 : ([] ++ [q0] ++ t1 ++ [q1] ++ t2).getD 173 0 = q1 := by
    rw [List.getD_eq_getElem?_getD, List.getElem?_append_left (by rw [List.length_append, hlen]; simp), ← List.getD_eq_getElem?_getD]
    exact ea
  exact lw_loop (L := L) (xs := xs) hpl hpr hjj hr hlocks L 0 0 ls (by omega) ⟨by omega, by omega⟩ ⟨hx, hb, hml, hown, ht, hK, hX, hbl, hL⟩ (by rw [ea0, ea1]; exact lv_sub hl [3, 2, 1, 0] rfl) h2 H locs i2 hR hS
