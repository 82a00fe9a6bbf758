theorem am_PL_len : am_PL.length = 361 := by decide +kernel
theorem am_hB_all : ∀ z, am_hB z = true := by
  intro z
  by_cases h0 : z < 92
  · have q := List.all_eq_true.mp am_hB_0 (z - 0) (List.mem_range.mpr (by omega))
    rw [show 0 + (z - 0) = z by omega] at q
    exact q
  by_cases h1 : z < 184
  · have q := List.all_eq_true.mp am_hB_1 (z - 92) (List.mem_range.mpr (by omega))
    rw [show 92 + (z - 92) = z by omega] at q
    exact q
  by_cases h2 : z < 276
  · have q := List.all_eq_true.mp am_hB_2 (z - 184) (List.mem_range.mpr (by omega))
    rw [show 184 + (z - 184) = z by omega] at q
    exact q
  by_cases h3 : z < 361
  · have q := List.all_eq_true.mp am_hB_3 (z - 276) (List.mem_range.mpr (by omega))
    rw [show 276 + (z - 276) = z by omega] at q
    exact q
  have hn : am_PL[z]? = none := List.getElem?_eq_none (by rw [am_PL_len]; omega)
  unfold am_hB
  rw [hn]
theorem am_xB_all : ∀ z, am_xB z = true := by
  intro z
  by_cases h0 : z < 129
  · have q := List.all_eq_true.mp am_xB_0 (z - 0) (List.mem_range.mpr (by omega))
    rw [show 0 + (z - 0) = z by omega] at q
    exact q
  by_cases h1 : z < 260
  · have q := List.all_eq_true.mp am_xB_1 (z - 129) (List.mem_range.mpr (by omega))
    rw [show 129 + (z - 129) = z by omega] at q
    exact q
  by_cases h2 : z < 361
  · have q := List.all_eq_true.mp am_xB_2 (z - 260) (List.mem_range.mpr (by omega))
    rw [show 260 + (z - 260) = z by omega] at q
    exact q
  have hn : am_PL[z]? = none := List.getElem?_eq_none (by rw [am_PL_len]; omega)
  unfold am_xB
  rw [hn]
theorem am_dB_all : ∀ z, am_dB z = true := by
  intro z
  by_cases h0 : z < 33
  · have q := List.all_eq_true.mp am_dB_0 (z - 0) (List.mem_range.mpr (by omega))
    rw [show 0 + (z - 0) = z by omega] at q
    exact q
  by_cases h1 : z < 58
  · have q := List.all_eq_true.mp am_dB_1 (z - 33) (List.mem_range.mpr (by omega))
    rw [show 33 + (z - 33) = z by omega] at q
    exact q
  by_cases h2 : z < 94
  · have q := List.all_eq_true.mp am_dB_2 (z - 58) (List.mem_range.mpr (by omega))
    rw [show 58 + (z - 58) = z by omega] at q
    exact q
  by_cases h3 : z < 123
  · have q := List.all_eq_true.mp am_dB_3 (z - 94) (List.mem_range.mpr (by omega))
    rw [show 94 + (z - 94) = z by omega] at q
    exact q
  by_cases h4 : z < 152
  · have q := List.all_eq_true.mp am_dB_4 (z - 123) (List.mem_range.mpr (by omega))
    rw [show 123 + (z - 123) = z by omega] at q
    exact q
  by_cases h5 : z < 176
  · have q := List.all_eq_true.mp am_dB_5 (z - 152) (List.mem_range.mpr (by omega))
    rw [show 152 + (z - 152) = z by omega] at q
    exact q
  by_cases h6 : z < 213
  · have q := List.all_eq_true.mp am_dB_6 (z - 176) (List.mem_range.mpr (by omega))
    rw [show 176 + (z - 176) = z by omega] at q
    exact q
  by_cases h7 : z < 253
  · have q := List.all_eq_true.mp am_dB_7 (z - 213) (List.mem_range.mpr (by omega))
    rw [show 213 + (z - 213) = z by omega] at q
    exact q
  by_cases h8 : z < 270
  · have q := List.all_eq_true.mp am_dB_8 (z - 253) (List.mem_range.mpr (by omega))
    rw [show 253 + (z - 253) = z by omega] at q
    exact q
  by_cases h9 : z < 300
  · have q := List.all_eq_true.mp am_dB_9 (z - 270) (List.mem_range.mpr (by omega))
    rw [show 270 + (z - 270) = z by omega] at q
    exact q
  by_cases h10 : z < 327
  · have q := List.all_eq_true.mp am_dB_10 (z - 300) (List.mem_range.mpr (by omega))
    rw [show 300 + (z - 300) = z by omega] at q
    exact q
  by_cases h11 : z < 353
  · have q := List.all_eq_true.mp am_dB_11 (z - 327) (List.mem_range.mpr (by omega))
    rw [show 327 + (z - 327) = z by omega] at q
    exact q
  by_cases h12 : z < 361
  · have q := List.all_eq_true.mp am_dB_12 (z - 353) (List.mem_range.mpr (by omega))
    rw [show 353 + (z - 353) = z by omega] at q
    exact q
  have hn : am_PL[z]? = none := List.getElem?_eq_none (by rw [am_PL_len]; omega)
  unfold am_dB
  rw [hn]
theorem am_mem_fm {α β : Type} {l : List α} {f : α → Bool} {g : α → β} {y : β} (h : y ∈ l.filterMap fun e => bif f e then some (g e) else none) : ∃ e ∈ l, f e = true ∧ g e = y := by
  obtain ⟨e, he, hq⟩ := List.mem_filterMap.mp h
  cases b : f e with
  | false => rw [b] at hq; cases hq
  | true => rw [b] at hq; exact ⟨e, he, b, Option.some.inj hq⟩
theorem am_rtB_ok : ∀ rt r, am_rtB rt r = true → am_rtOK rt r := by
  intro rt r h
  unfold am_rtB at h
  split at h <;> first | rfl | exact ⟨_, rfl⟩ | cases h
theorem am_clOK_ok : am_clOK am_Ts am_cl am_ft := by
  intro ci C T N hc
  have hlt : ci < am_cl.length := (List.getElem?_eq_some_iff.mp hc).1
  have hb := List.all_eq_true.mp am_clB_ok ci (List.mem_range.mpr hlt)
  unfold am_clB at hb
  rw [hc] at hb
  dsimp only at hb
  rw [Bool.and_eq_true, Bool.and_eq_true] at hb
  obtain ⟨⟨h1, h2⟩, h3⟩ := hb
  have h2 := Nat.eq_of_beq_eq_true h2
  have hk : ∀ k, k < N → am_wB ((am_lyL.getD ci []).getD k 0) (u_lay C T k) = true ∧ am_tyB ((am_ft ci).getD k 9) (T k).2.2.1 = true ∧ ∀ j, j < N → j ≠ k → (T j).2.1 ≠ (T k).2.1 := by
    intro k hk
    have q := List.all_eq_true.mp h1 k (List.mem_range.mpr hk)
    rw [Bool.and_eq_true, Bool.and_eq_true] at q
    refine ⟨q.1.1, q.1.2, fun j hj hjk => ?_⟩
    have q2 := List.all_eq_true.mp q.2 j (List.mem_range.mpr hj)
    rw [am_beq_f hjk, Bool.false_or, decide_eq_true_eq] at q2
    exact q2
  refine ⟨fun w hw => ?_, fun k => (parseFieldDescriptor (T k).2.2.1).getD .int, fun k hk' => ?_, fun a ha b hb' hab => (hk b hb').2.2 a ha hab, h2, fun k t ht => ?_⟩
  · obtain ⟨k, hk1, rfl⟩ := List.mem_map.mp hw
    exact am_wB_ok (hk k (List.mem_range.mp hk1)).1
  · have q := (hk k hk').2.1
    unfold am_tyB at q
    cases e : parseFieldDescriptor (T k).2.2.1 with
    | none => rw [e] at q; split at q <;> simp_all
    | some y => show some y = some ((parseFieldDescriptor (T k).2.2.1).getD .int); rw [e]; rfl
  · have hkN : k < N := by rw [← h2]; exact (List.getElem?_eq_some_iff.mp ht).1
    have q := (hk k hkN).2.1
    rw [List.getD_eq_getElem?_getD, ht] at q
    unfold am_tyB at q
    show am_tyOK t ((parseFieldDescriptor (T k).2.2.1).getD .int)
    split at q
    · next e1 e2 => simp at e1; subst e1; rw [e2]; rfl
    · next e1 e2 => simp at e1; subst e1; rw [e2]; rfl
    · next e1 e2 => simp at e1; subst e1; rw [e2]; exact Or.inl ⟨_, rfl⟩
    · next e1 e2 => simp at e1; subst e1; rw [e2]; exact Or.inr ⟨_, rfl⟩
    · next e1 e2 => simp at e1; subst e1; rw [e2]; rfl
    · cases q
theorem am_TOK_ok : am_TOK am_Ts am_cl am_ft am_nw am_C3 am_C4 am_fn 3 4 (fun o => o) am_t := by
  refine ⟨?_, ?_, ?_, ?_, ?_, ?_, ?_, ?_, ?_, ?_, am_w9, ⟨am_wB_ok am_w6, am_wB_ok am_w7, am_wB_ok am_w8⟩, ⟨am_fT3, _, rfl⟩, ⟨am_fT4, _, rfl⟩, ?_, am_clOK_ok, ?_, ?_⟩
  · intro o k c f h
    obtain ⟨e, he, hb, hg⟩ := am_mem_fm (l := am_FLa) (f := fun e : Nat × Nat × Nat × Nat × Nat => Nat.beq e.1 o) (g := fun e : Nat × Nat × Nat × Nat × Nat => (e.2.1, e.2.2.1, e.2.2.2.1)) h
    have q := List.all_eq_true.mp am_FL_ok e he
    obtain ⟨o', k', c', f', pl⟩ := e
    have hb := Nat.eq_of_beq_eq_true hb
    cases hb
    cases hg
    dsimp only at q
    split at q
    · next C T N hc =>
      rw [Bool.and_eq_true, decide_eq_true_eq] at q
      refine ⟨C, T, N, hc, am_wB_ok q.1, ?_, q.2⟩
      unfold am_fn
      rw [hc]
    · cases q
  · intro o k z h
    obtain ⟨e, he, hb, hg⟩ := am_mem_fm (l := am_MLa) (f := fun e : Nat × Nat × Nat × Nat => Nat.beq e.1 o) (g := fun e : Nat × Nat × Nat × Nat => (e.2.1, e.2.2.1)) h
    have q := List.all_eq_true.mp am_ML_ok e he
    obtain ⟨o', k', z', pl⟩ := e
    have hb := Nat.eq_of_beq_eq_true hb
    cases hb
    cases hg
    exact am_wB_ok q
  · intro o k z h
    obtain ⟨e, he, hb, hg⟩ := am_mem_fm (l := am_NLa) (f := fun e : Nat × Nat × Nat => Nat.beq e.1 o) (g := fun e : Nat × Nat × Nat => (e.2.1, e.2.2)) h
    have q := List.all_eq_true.mp am_NL_ok e he
    obtain ⟨o', k', z'⟩ := e
    have hb := Nat.eq_of_beq_eq_true hb
    cases hb
    cases hg
    exact ⟨_, of_decide_eq_true q⟩
  · intro o k c h
    obtain ⟨e, he, hb, hg⟩ := am_mem_fm (l := am_CLa) (f := fun e : Nat × Nat × Nat × Nat => Nat.beq e.1 o) (g := fun e : Nat × Nat × Nat × Nat => (e.2.1, e.2.2.1)) h
    have q := List.all_eq_true.mp am_CL_ok e he
    obtain ⟨o', k', c', pl⟩ := e
    have hb := Nat.eq_of_beq_eq_true hb
    cases hb
    cases hg
    dsimp only at q
    split at q
    · next C T N hc =>
      rw [Bool.and_eq_true, Bool.and_eq_true] at q
      exact ⟨C, T, N, hc, am_wB_ok q.1.1, am_wB_ok q.1.2, am_wB_ok q.2⟩
    · cases q
  · intro o k x h
    obtain ⟨e, he, hb, hg⟩ := am_mem_fm (l := am_ALa) (f := fun e : Nat × Nat × Nat × Nat => Nat.beq e.1 o) (g := fun e : Nat × Nat × Nat × Nat => (e.2.1, e.2.2.1)) h
    have q := List.all_eq_true.mp am_AL_ok e he
    obtain ⟨o', k', x', pl⟩ := e
    have hb := Nat.eq_of_beq_eq_true hb
    cases hb
    cases hg
    rw [Bool.or_eq_true, Bool.and_eq_true, Bool.and_eq_true] at q
    exact q.imp (fun q => ⟨Nat.eq_of_beq_eq_true q.1, am_wB_ok q.2⟩) (fun q => ⟨Nat.eq_of_beq_eq_true q.1, am_wB_ok q.2⟩)
  · intro o k v h
    obtain ⟨e, he, hb, hg⟩ := am_mem_fm (l := am_KIa) (f := fun e : Nat × Nat × Int × Nat => Nat.beq e.1 o) (g := fun e : Nat × Nat × Int × Nat => (e.2.1, e.2.2.1)) h
    have q := List.all_eq_true.mp am_KI_ok e he
    obtain ⟨o', k', v', pl⟩ := e
    have hb := Nat.eq_of_beq_eq_true hb
    cases hb
    cases hg
    exact am_wB_ok q
  · intro o k v h
    obtain ⟨e, he, hb, hg⟩ := am_mem_fm (l := am_KLa) (f := fun e : Nat × Nat × Int × Nat => Nat.beq e.1 o) (g := fun e : Nat × Nat × Int × Nat => (e.2.1, e.2.2.1)) h
    have q := List.all_eq_true.mp am_KL_ok e he
    obtain ⟨o', k', v', pl⟩ := e
    have hb := Nat.eq_of_beq_eq_true hb
    cases hb
    cases hg
    exact am_wB_ok q
  · intro o k h
    obtain ⟨e, he, hb, hg⟩ := am_mem_fm (l := am_OIa) (f := fun e : Nat × Nat × Nat => Nat.beq e.1 o) (g := fun e : Nat × Nat × Nat => e.2.1) h
    have q := List.all_eq_true.mp am_OI_ok e he
    obtain ⟨o', k', pl⟩ := e
    have hb := Nat.eq_of_beq_eq_true hb
    cases hb
    cases hg
    exact ⟨am_wB_ok q, am_wB_ok am_w1, am_wB_ok am_w2⟩
  · intro o k h
    obtain ⟨e, he, hb, hg⟩ := am_mem_fm (l := am_ACa) (f := fun e : Nat × Nat × Nat => Nat.beq e.1 o) (g := fun e : Nat × Nat × Nat => e.2.1) h
    have q := List.all_eq_true.mp am_AC_ok e he
    obtain ⟨o', k', pl⟩ := e
    have hb := Nat.eq_of_beq_eq_true hb
    cases hb
    cases hg
    exact ⟨am_wB_ok q, am_wB_ok am_w3, am_wB_ok am_w4, am_wB_ok am_w5⟩
  · intro o k x h
    obtain ⟨e, he, hb, hg⟩ := am_mem_fm (l := am_MMa) (f := fun e : Nat × Nat × Nat × Nat => Nat.beq e.1 o) (g := fun e : Nat × Nat × Nat × Nat => (e.2.1, e.2.2.1)) h
    have q := List.all_eq_true.mp am_MM_ok e he
    obtain ⟨o', k', x', pl⟩ := e
    have hb := Nat.eq_of_beq_eq_true hb
    cases hb
    cases hg
    simp only [Bool.or_eq_true, Bool.and_eq_true] at q
    rcases q with (⟨q1, q2⟩ | ⟨q1, q2⟩) | ⟨q1, q2⟩
    · exact Or.inl ⟨Nat.eq_of_beq_eq_true q1, am_wB_ok q2, am_wB_ok am_v2, am_wB_ok am_v1, am_wB_ok am_v3⟩
    · exact Or.inr (Or.inl ⟨Nat.eq_of_beq_eq_true q1, am_wB_ok q2, am_wB_ok am_v4, am_wB_ok am_v1, am_wB_ok am_v5⟩)
    · exact Or.inr (Or.inr ⟨Nat.eq_of_beq_eq_true q1, am_wB_ok q2, am_wB_ok am_v6, am_wB_ok am_v1, am_wB_ok am_v7⟩)
  · intro o c hoc C T N hc
    have hoc : o = c := hoc
    subst hoc
    have hlt : o < am_cl.length := (List.getElem?_eq_some_iff.mp hc).1
    have hb := List.all_eq_true.mp am_clB_ok o (List.mem_range.mpr hlt)
    unfold am_clB at hb
    rw [hc] at hb
    dsimp only at hb
    rw [Bool.and_eq_true, decide_eq_true_eq] at hb
    exact hb.2
  · intro w hw
    exact good_of_word (List.mem_filter.mp hw).2
  · intro z cd mL rt mc ms hz
    have hz : am_PL[z]? = some (cd, mL, rt, mc, ms) := hz
    have qh := am_hB_all z
    have qx := am_xB_all z
    have qd := am_dB_all z
    unfold am_hB at qh
    unfold am_xB at qx
    unfold am_dB at qd
    rw [hz] at qh qx qd
    dsimp only at qh qx qd
    simp only [Bool.and_eq_true] at qh
    obtain ⟨⟨⟨⟨⟨⟨⟨h1, h2⟩, h3⟩, h4⟩, h5⟩, h6⟩, h7⟩, h8⟩ := qh
    have h3 := of_decide_eq_true h3
    refine ⟨⟨am_wB_ok h1, am_cB_ok h2, h3, Nat.le_of_ble_eq_true h4⟩, h5, of_decide_eq_true h6, ?_, ?_, ?_, ?_, ?_⟩
    · exact am_rtB_ok _ _ h7
    · intro hk
      have hk : (am_mi z).1 = 0 := hk
      rw [hk] at h8
      try dsimp only at h8
      simp only [Bool.and_eq_true] at h8
      obtain ⟨⟨g1, g2⟩, g3⟩ := h8
      refine ⟨am_wB_ok g1, am_wB_ok g2, ?_⟩
      split at g3
      · next C T N hc =>
        have e := of_decide_eq_true g3
        subst e
        exact ⟨T, N, hc⟩
      · cases g3
    · intro hk
      have hk : (am_mi z).1 = 1 := hk
      rw [hk] at h8
      exact am_wB_ok h8
    · intro hk
      have hk : (am_mi z).1 = 2 := hk
      rw [hk] at h8
      try dsimp only at h8
      simp only [Bool.and_eq_true] at h8
      obtain ⟨⟨g1, g2⟩, g3⟩ := h8
      exact ⟨am_wB_ok g1, of_decide_eq_true g2, of_decide_eq_true g3⟩
    · intro q hq
      exact ⟨List.all_eq_true.mp qd q hq, List.all_eq_true.mp qx q hq⟩
