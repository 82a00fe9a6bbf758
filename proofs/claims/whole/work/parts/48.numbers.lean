/-! the law, of the numbers alone -/
theorem am_nfOK_b : (List.range 361).all (fun z => !am_ns z || (match am_PL[z]? with | some (cd, _) => cd.all (fun q => am_fE am_bd q.2) | none => true)) = true := by decide +kernel
theorem am_nfOK : am_nfP am_P am_ns am_bd := by
  intro z cd mL rt mc ms hz hP q hq
  refine ⟨am_nsOK z cd mL rt mc ms hz hP q hq, ?_⟩
  have hP : am_PL[z]? = some (cd, mL, rt, mc, ms) := hP
  have hlt : z < 361 := by rw [← am_PL_len]; exact (List.getElem?_eq_some_iff.mp hP).1
  have hb := List.all_eq_true.mp am_nfOK_b z (List.mem_range.mpr hlt)
  rw [hz, hP, Bool.not_true, Bool.false_or] at hb
  exact List.all_eq_true.mp hb q hq
theorem am_mkO_ok {f : am_h → Bool} {h : am_h} (hf : am_mkO f = true) (hm : am_mk = some h) : f h = true := by
  unfold am_mkO at hf; rw [hm] at hf; exact hf
theorem am_mk_some : ∃ h, am_mk = some h := by
  cases e : am_mk with
  | none => have q := am_mk_n; unfold am_mkO at q; rw [e] at q; cases q
  | some h => exact ⟨h, rfl⟩
theorem am_mk_agr {h : am_h} (hm : am_mk = some h) : am_agr am_bd h.1 am_gg := by
  refine ⟨Nat.eq_of_beq_eq_true (am_mkO_ok am_mk_n hm), fun k hk => ?_⟩
  have hk : k < 199 := hk
  have hb : am_mkB h k = true := by
    by_cases h1 : k < 40
    · have q := List.all_eq_true.mp (am_mkO_ok am_mk_0 hm) k (List.mem_range.mpr (by omega))
      rwa [show 0 + k = k by omega] at q
    by_cases h2 : k < 80
    · have q := List.all_eq_true.mp (am_mkO_ok am_mk_40 hm) (k - 40) (List.mem_range.mpr (by omega))
      rwa [show 40 + (k - 40) = k by omega] at q
    by_cases h3 : k < 120
    · have q := List.all_eq_true.mp (am_mkO_ok am_mk_80 hm) (k - 80) (List.mem_range.mpr (by omega))
      rwa [show 80 + (k - 80) = k by omega] at q
    by_cases h4 : k < 160
    · have q := List.all_eq_true.mp (am_mkO_ok am_mk_120 hm) (k - 120) (List.mem_range.mpr (by omega))
      rwa [show 120 + (k - 120) = k by omega] at q
    · have q := List.all_eq_true.mp (am_mkO_ok am_mk_160 hm) (k - 160) (List.mem_range.mpr (by omega))
      rwa [show 160 + (k - 160) = k by omega] at q
  unfold am_mkB at hb
  simp only [Bool.and_eq_true] at hb
  obtain ⟨⟨⟨b1, b2⟩, b3⟩, b4⟩ := hb
  refine ⟨Prod.ext (Nat.eq_of_beq_eq_true b1) (Nat.eq_of_beq_eq_true b2), fun q => ?_, fun i hi => Nat.eq_of_beq_eq_true (List.all_eq_true.mp b4 i (List.mem_range.mpr hi))⟩
  have q : (am_shF k).1 = 3 ∨ (am_shF k).1 = 4 := q
  have e : (Nat.beq (am_shF k).1 3 || Nat.beq (am_shF k).1 4) = true := by
    rcases q with q | q <;> rw [q] <;> rfl
  rw [e, Bool.not_true, Bool.false_or] at b3
  exact Nat.le_of_ble_eq_true b3
/-- two methods over the numbers -/
def lm_pr (I I' : (Nat → Int → Int) → Prop) (zx zm : Nat) (as : List am_v) : Prop := ∀ M, I M → am_s am_P am_gg 1600 zx (.inr (.inr 1) :: as) M (fun r M1 => am_s am_P am_gg 1600 zm (.inr (.inr 174) :: as) M1 (fun r' M2 => r = r' ∧ I' M2))
theorem lm_pr_use {I I' : (Nat → Int → Int) → Prop} {zx zm : Nat} {as : List am_v} (hx : am_ns zx = true) (hm : am_ns zm = true) (q : lm_pr I I' zx zm as) : am_pr (fun h => am_agr am_bd h.1 am_gg ∧ I h.2) (fun h => am_agr am_bd h.1 am_gg ∧ I' h.2) zx zm as := by
  intro h hi
  obtain ⟨g, M⟩ := h
  have hag : am_agr am_bd g am_gg := hi.1
  refine am_S_mono (Nat.le_refl _) (am_s_use am_nfOK hag hx (q M hi.2)) (fun r h1 q1 => ⟨q1.1, ?_⟩)
  obtain ⟨g1, M1⟩ := h1
  have e1 : g1 = g := q1.1
  subst e1
  exact am_S_mono (Nat.le_refl _) (am_s_use am_nfOK hag hm q1.2) (fun r' h2 q2 => ⟨q2.2.1, q2.1, by rw [q2.1]; exact hag, q2.2.2⟩)
def lm_prs (I I' : (Nat → Int → Int) → Prop) : Prop := lm_pr I I' 167 223 []
  ∧ (∀ a b c d e : Int, am_i32 a → am_i32 b → am_i32 c → am_i32 d → am_i32 e → lm_pr I I' 168 239 [.inl a, .inl b, .inl c, .inl d, .inl e])
  ∧ (∀ a : Int, am_i32 a → lm_pr I I' 169 253 [.inl a])
  ∧ (∀ a : Int, am_i32 a → lm_pr I I' 170 254 [.inl a])
  ∧ (∀ a b : Int, am_i32 a → (b = 0 ∨ b = 1) → lm_pr I I' 171 255 [.inl a, .inl b])
  ∧ (∀ a b : Int, am_i32 a → am_i32 b → lm_pr I I' 172 256 [.inl a, .inl b])
  ∧ (∀ a : Int, am_i32 a → lm_pr I I' 173 257 [.inl a])
  ∧ lm_pr I I' 174 258 []
  ∧ (∀ a : Int, am_i32 a → lm_pr I I' 175 285 [.inl a])
  ∧ (∀ a b : Int, am_i32 a → am_i32 b → lm_pr I I' 176 286 [.inl a, .inl b])
  ∧ (∀ a b : Int, am_i32 a → am_i32 b → lm_pr I I' 177 287 [.inl a, .inl b])
  ∧ (∀ a b : Int, am_i32 a → am_i32 b → lm_pr I I' 178 289 [.inl a, .inl b])
  ∧ (∀ a : Int, am_i32 a → lm_pr I I' 179 292 [.inl a])
  ∧ (∀ a b : Int, am_i32 a → am_i32 b → lm_pr I I' 180 297 [.inl a, .inl b])
  ∧ (∀ a b : Int, am_i32 a → am_i32 b → lm_pr I I' 181 298 [.inl a, .inl b])
  ∧ (∀ a b : Int, am_i32 a → am_i32 b → lm_pr I I' 182 300 [.inl a, .inl b])
  ∧ (∀ a b c : Int, am_i32 a → (b = 0 ∨ b = 1) → am_i32 c → lm_pr I I' 183 301 [.inl a, .inl b, .inl c])
  ∧ (∀ a b : Int, am_i32 a → am_i32 b → lm_pr I I' 184 308 [.inl a, .inl b])
  ∧ (∀ a b : Int, am_i32 a → am_i32 b → lm_pr I I' 185 309 [.inl a, .inl b])
  ∧ (∀ a b c : Int, am_i32 a → am_i32 b → am_i32 c → lm_pr I I' 186 310 [.inl a, .inl b, .inl c])
  ∧ (∀ a b : Int, am_i32 a → am_i32 b → lm_pr I I' 187 311 [.inl a, .inl b])
  ∧ (∀ a b : Int, am_i32 a → am_i32 b → lm_pr I I' 188 316 [.inl a, .inl b])
  ∧ (∀ a : Int, am_i32 a → lm_pr I I' 189 317 [.inl a])
  ∧ (∀ a b c : Int, am_i32 a → am_i32 b → am_i32 c → lm_pr I I' 190 318 [.inl a, .inl b, .inl c])
  ∧ (∀ a b : Int, am_i32 a → am_i32 b → lm_pr I I' 191 295 [.inl a, .inl b])
  ∧ lm_pr I I' 192 296 []
  ∧ lm_pr I I' 193 320 []
  ∧ (∀ a b : Int, am_i32 a → am_i32 b → lm_pr I I' 194 328 [.inl a, .inl b])
  ∧ (∀ a b c d : Int, am_i32 a → am_i32 b → am_i32 c → am_i32 d → lm_pr I I' 195 330 [.inl a, .inl b, .inl c, .inl d])
  ∧ (∀ a b c d : Int, am_i32 a → am_i32 b → am_i32 c → am_i32 d → lm_pr I I' 196 331 [.inl a, .inl b, .inl c, .inl d])
  ∧ (∀ a : Int, am_i32 a → lm_pr I I' 197 333 [.inl a])
  ∧ (∀ a : Int, am_i32 a → lm_pr I I' 198 340 [.inl a])
  ∧ (∀ a : Int, am_i32 a → lm_pr I I' 199 344 [.inl a])
  ∧ (∀ a b : Int, am_i32 a → am_i32 b → lm_pr I I' 200 345 [.inl a, .inl b])
  ∧ (∀ a b : Int, am_i32 a → am_i32 b → lm_pr I I' 201 350 [.inl a, .inl b])
  ∧ (∀ a b c : Int, am_i32 a → am_i32 b → am_i32 c → lm_pr I I' 202 351 [.inl a, .inl b, .inl c])
  ∧ (∀ a : Int, am_i32 a → lm_pr I I' 203 240 [.inl a])
/-- the law over the numbers: it holds at the start, and each pair of calls keeps it and answers the same -/
def lm_Law (J : Nat → (Nat → Int → Int) → Prop) : Prop := (∀ h, am_mk = some h → J 0 h.2) ∧ (∀ k, k < 512 → lm_prs (J k) (J (k + 1))) ∧ (∀ k M, J k M → J (k + 1) M)
theorem lm_made {I : (Nat → Int → Int) → Prop} (h0 : ∀ h, am_mk = some h → I h.2) : am_made (fun h => am_agr am_bd h.1 am_gg ∧ I h.2) := by
  obtain ⟨h, hm⟩ := am_mk_some
  have hag := am_mk_agr hm
  have hI := h0 h hm
  unfold am_mk at hm
  cases e1 : am_call am_P 1600 3000 166 [.inr (.inr 1)] (am_new am_h0 (16, 0)) with
  | none => rw [e1] at hm; cases hm
  | some y =>
    rw [e1] at hm
    obtain ⟨r1, h1⟩ := y
    dsimp only at hm
    cases b : Nat.beq h1.1.1 173 with
    | false => rw [b] at hm; cases hm
    | true =>
      rw [b] at hm
      cases e2 : am_call am_P 1600 3000 222 [.inr (.inr 174)] (am_new h1 (17, 0)) with
      | none => rw [e2] at hm; cases hm
      | some y2 =>
        rw [e2] at hm
        obtain ⟨r2, h2⟩ := y2
        have hm : some h2 = some h := hm
        cases hm
        exact ⟨3000, r1, h1, e1, Nat.eq_of_beq_eq_true b, 3000, r2, _, e2, hag, hI⟩
theorem lm_plan (I : (Nat → Int → Int) → Prop) : am_plan (fun h => am_agr am_bd h.1 am_gg ∧ I h.2) := by
  intro h hi
  obtain ⟨h1, h2⟩ := hi.1
  refine ⟨by rw [h1]; show 174 ≤ 199; omega, ?_, ?_⟩
  · rw [(h2 0 (by show 0 < 199; omega)).1]; rfl
  · rw [(h2 173 (by show 173 < 199; omega)).1]; rfl
theorem lm_prs_use {I I' : (Nat → Int → Int) → Prop} (h : lm_prs I I') : am_prs (fun h => am_agr am_bd h.1 am_gg ∧ I h.2) (fun h => am_agr am_bd h.1 am_gg ∧ I' h.2) := by
  obtain ⟨r0, r1, r2, r3, r4, r5, r6, r7, r8, r9, r10, r11, r12, r13, r14, r15, r16, r17, r18, r19, r20, r21, r22, r23, r24, r25, r26, r27, r28, r29, r30, r31, r32, r33, r34, r35, r36⟩ := h
  refine ⟨?_, ?_, ?_, ?_, ?_, ?_, ?_, ?_, ?_, ?_, ?_, ?_, ?_, ?_, ?_, ?_, ?_, ?_, ?_, ?_, ?_, ?_, ?_, ?_, ?_, ?_, ?_, ?_, ?_, ?_, ?_, ?_, ?_, ?_, ?_, ?_, ?_⟩
  · exact lm_pr_use (by decide +kernel) (by decide +kernel) r0
  · intro a b c d e ha hb hc hd he
    exact lm_pr_use (by decide +kernel) (by decide +kernel) (r1 a b c d e ha hb hc hd he)
  · intro a ha
    exact lm_pr_use (by decide +kernel) (by decide +kernel) (r2 a ha)
  · intro a ha
    exact lm_pr_use (by decide +kernel) (by decide +kernel) (r3 a ha)
  · intro a b ha hb
    exact lm_pr_use (by decide +kernel) (by decide +kernel) (r4 a b ha hb)
  · intro a b ha hb
    exact lm_pr_use (by decide +kernel) (by decide +kernel) (r5 a b ha hb)
  · intro a ha
    exact lm_pr_use (by decide +kernel) (by decide +kernel) (r6 a ha)
  · exact lm_pr_use (by decide +kernel) (by decide +kernel) r7
  · intro a ha
    exact lm_pr_use (by decide +kernel) (by decide +kernel) (r8 a ha)
  · intro a b ha hb
    exact lm_pr_use (by decide +kernel) (by decide +kernel) (r9 a b ha hb)
  · intro a b ha hb
    exact lm_pr_use (by decide +kernel) (by decide +kernel) (r10 a b ha hb)
  · intro a b ha hb
    exact lm_pr_use (by decide +kernel) (by decide +kernel) (r11 a b ha hb)
  · intro a ha
    exact lm_pr_use (by decide +kernel) (by decide +kernel) (r12 a ha)
  · intro a b ha hb
    exact lm_pr_use (by decide +kernel) (by decide +kernel) (r13 a b ha hb)
  · intro a b ha hb
    exact lm_pr_use (by decide +kernel) (by decide +kernel) (r14 a b ha hb)
  · intro a b ha hb
    exact lm_pr_use (by decide +kernel) (by decide +kernel) (r15 a b ha hb)
  · intro a b c ha hb hc
    exact lm_pr_use (by decide +kernel) (by decide +kernel) (r16 a b c ha hb hc)
  · intro a b ha hb
    exact lm_pr_use (by decide +kernel) (by decide +kernel) (r17 a b ha hb)
  · intro a b ha hb
    exact lm_pr_use (by decide +kernel) (by decide +kernel) (r18 a b ha hb)
  · intro a b c ha hb hc
    exact lm_pr_use (by decide +kernel) (by decide +kernel) (r19 a b c ha hb hc)
  · intro a b ha hb
    exact lm_pr_use (by decide +kernel) (by decide +kernel) (r20 a b ha hb)
  · intro a b ha hb
    exact lm_pr_use (by decide +kernel) (by decide +kernel) (r21 a b ha hb)
  · intro a ha
    exact lm_pr_use (by decide +kernel) (by decide +kernel) (r22 a ha)
  · intro a b c ha hb hc
    exact lm_pr_use (by decide +kernel) (by decide +kernel) (r23 a b c ha hb hc)
  · intro a b ha hb
    exact lm_pr_use (by decide +kernel) (by decide +kernel) (r24 a b ha hb)
  · exact lm_pr_use (by decide +kernel) (by decide +kernel) r25
  · exact lm_pr_use (by decide +kernel) (by decide +kernel) r26
  · intro a b ha hb
    exact lm_pr_use (by decide +kernel) (by decide +kernel) (r27 a b ha hb)
  · intro a b c d ha hb hc hd
    exact lm_pr_use (by decide +kernel) (by decide +kernel) (r28 a b c d ha hb hc hd)
  · intro a b c d ha hb hc hd
    exact lm_pr_use (by decide +kernel) (by decide +kernel) (r29 a b c d ha hb hc hd)
  · intro a ha
    exact lm_pr_use (by decide +kernel) (by decide +kernel) (r30 a ha)
  · intro a ha
    exact lm_pr_use (by decide +kernel) (by decide +kernel) (r31 a ha)
  · intro a ha
    exact lm_pr_use (by decide +kernel) (by decide +kernel) (r32 a ha)
  · intro a b ha hb
    exact lm_pr_use (by decide +kernel) (by decide +kernel) (r33 a b ha hb)
  · intro a b ha hb
    exact lm_pr_use (by decide +kernel) (by decide +kernel) (r34 a b ha hb)
  · intro a b c ha hb hc
    exact lm_pr_use (by decide +kernel) (by decide +kernel) (r35 a b c ha hb hc)
  · intro a ha
    exact lm_pr_use (by decide +kernel) (by decide +kernel) (r36 a ha)
theorem lm_use {J : Nat → (Nat → Int → Int) → Prop} (h : lm_Law J) : am_Law (fun k h => am_agr am_bd h.1 am_gg ∧ J k h.2) :=
  ⟨fun k => lm_plan (J k), lm_made h.1, fun k hk => lm_prs_use (h.2.1 k hk), fun k y hy => ⟨hy.1, h.2.2 k y.2 hy.2⟩⟩
