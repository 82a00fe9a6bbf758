section AM12
variable {p : Program} {l : Launch} {e : Env} {R : Room} {s : State} {m : MethodId} {args : Array Value} {below : List Frame} {meth : Method} {c : Code}
variable {D : va_G} {cl : List vw_C} {ft : Nat → List Nat} {cs : Nat → ClassId} {A : Nat → Prop} {C3 C4 : String} {nw : List (String × Nat × MethodName × String)} {Ts : List Cond} {d : Nat}
variable {ad0 : List Nat} {mL rt mc ms : Nat} {r : Int} {h' : am_h} {pc : Nat} {ls : am_l} {st : List am_v} {h : am_h} {cb sb : Nat}
variable {fin : Nat → Nat → Bool} {e3 e4 : Nat} {oci : Nat → Nat} {t : am_T}
theorem am_i32b_ok {v : Int} (h : am_i32b v = true) : am_i32 v := by
  unfold am_i32b at h; rw [Bool.and_eq_true, decide_eq_true_eq, decide_eq_true_eq] at h; exact h
theorem am_i64b_ok {v : Int} (h : am_i64b v = true) : am_i64 v := by
  unfold am_i64b at h; rw [Bool.and_eq_true, decide_eq_true_eq, decide_eq_true_eq] at h; exact h
theorem am_pOK_ok {x1 x3 x4 x5 : Nat} (h : am_pOK t x1 x3 x4 x5 = true) : ∃ cdz mLz, t.P x1 = some (cdz, mLz, x3, x4, x5) := by
  unfold am_pOK at h
  split at h
  · next cdz mLz a b c e =>
    rw [Bool.and_eq_true, Bool.and_eq_true] at h
    obtain ⟨⟨h1, h2⟩, h3⟩ := h
    rw [Nat.eq_of_beq_eq_true h1, Nat.eq_of_beq_eq_true h2, Nat.eq_of_beq_eq_true h3] at e
    exact ⟨_, _, e⟩
  · cases h
theorem am_call_some {cal : Nat → List am_v → am_h → Option (Int × am_h)} {z : Nat} {as : List am_v} {hh : am_h} {k : Int → am_h → Option (Int × am_h)} {y : Int × am_h} (q : (match cal z as hh with | some (r, h') => k r h' | none => none) = some y) : ∃ r1 h1, cal z as hh = some (r1, h1) ∧ k r1 h1 = some y := by
  cases e : cal z as hh with
  | none => rw [e] at q; cases q
  | some x => rw [e] at q; exact ⟨x.1, x.2, rfl, q⟩
set_option maxHeartbeats 8000000 in
theorem am_snd_step (TK : am_TOK Ts cl ft nw C3 C4 fin e3 e4 oci t) (z0 : Nat) {cd : List (Nat × am_e)} (hP : t.P z0 = some (cd, mL, rt, mc, ms)) (X : am_cx p R s m args meth c D cl cs A C3 C4 nw Ts (t.bz z0) mL (t.rT z0) (t.nm z0) d mc ms)
    {cal : Nat → List am_v → am_h → Option (Int × am_h)} {go : Nat → am_l → List am_v → am_h → Nat → Nat → Option (Int × am_h)}
    (IHg : ∀ pc ls st h cb sb, go pc ls st h cb sb = some (r, h') → am_G p l e R s m args below meth c D cl ft cs A ad0 mL rt mc ms r h' pc ls st h cb sb)
    (IHc : ∀ z as hh rr hh', cal z as hh = some (rr, hh') → ∀ cdz mLz rtz mcz msz, t.P z = some (cdz, mLz, rtz, mcz, msz) → am_Met l D cl ft cs A C3 C4 nw Ts (t.nm z) (t.bz z) mLz (t.rT z) d rtz mcz msz as hh rr hh')
    {E : am_e} (hm : (pc, E) ∈ cd) (hs : am_step none (fun r h => some (r, h)) go (fun z as h k => match cal z as h with | some (r, h') => k r h' | none => none) rt (some E) ls st h cb sb = some (r, h')) : am_G p l e R s m args below meth c D cl ft cs A ad0 mL rt mc ms r h' pc ls st h cb sb := by
  obtain ⟨tFL, tML, tNL, tCL, tAL, tKI, tKL, tOI, tAC, tMM, tNF, ⟨tA0, tA1, tA2⟩, tE3, tE4, tOC, hC, hG, tM⟩ := TK
  obtain ⟨hsite, hpl, hcn, hrt, hk0, hk1, hk2, hEs⟩ := tM z0 cd mL rt mc ms hP
  obtain ⟨eD, eX⟩ := hEs _ hm
  obtain ⟨ins, nx, v, x1, x2, x3, x4, x5, ts⟩ := E
  unfold am_eD at eD
  dsimp only at eD eX
  rw [Bool.and_eq_true, Bool.and_eq_true, decide_eq_true_eq] at eD
  obtain ⟨⟨hd0, hlt⟩, hsw⟩ := eD
  have hns : am_isSw ins = false → nx = pc + am_len ins ∧ decode (t.bz z0) pc = .ok (ins, am_len ins) := by
    intro q
    rw [q, Bool.false_or] at hsw
    have hn := Nat.eq_of_beq_eq_true hsw
    refine ⟨hn, ?_⟩
    rw [hn, Nat.add_sub_cancel_left] at hd0
    exact hd0
  cases ins
  case iload k =>
    obtain ⟨rfl, hd⟩ := hns rfl
    dsimp only [am_step] at hs
    dsimp only [am_eX] at eX
    have q := Nat.eq_of_beq_eq_true eX; subst q
    split at hs
    · next x e1 => exact am_t_iload X hd e1 (IHg _ _ _ _ _ _ hs)
    · cases hs
  case lload k =>
    obtain ⟨rfl, hd⟩ := hns rfl
    dsimp only [am_step] at hs
    dsimp only [am_eX] at eX
    have q := Nat.eq_of_beq_eq_true eX; subst q
    split at hs
    · next x e1 => exact am_t_lload X hd e1 (IHg _ _ _ _ _ _ hs)
    · cases hs
  case aload k =>
    obtain ⟨rfl, hd⟩ := hns rfl
    dsimp only [am_step] at hs
    dsimp only [am_eX] at eX
    have q := Nat.eq_of_beq_eq_true eX; subst q
    split at hs
    · next x e1 => exact am_t_aload X hd e1 (IHg _ _ _ _ _ _ hs)
    · cases hs
  case iload_n k =>
    obtain ⟨rfl, hd⟩ := hns rfl
    dsimp only [am_step] at hs
    dsimp only [am_eX] at eX
    have q := Nat.eq_of_beq_eq_true eX; subst q
    split at hs
    · next x e1 => exact am_t_iload_n X hd e1 (IHg _ _ _ _ _ _ hs)
    · cases hs
  case lload_n k =>
    obtain ⟨rfl, hd⟩ := hns rfl
    dsimp only [am_step] at hs
    dsimp only [am_eX] at eX
    have q := Nat.eq_of_beq_eq_true eX; subst q
    split at hs
    · next x e1 => exact am_t_lload_n X hd e1 (IHg _ _ _ _ _ _ hs)
    · cases hs
  case aload_n k =>
    obtain ⟨rfl, hd⟩ := hns rfl
    dsimp only [am_step] at hs
    dsimp only [am_eX] at eX
    have q := Nat.eq_of_beq_eq_true eX; subst q
    split at hs
    · next x e1 => exact am_t_aload_n X hd e1 (IHg _ _ _ _ _ _ hs)
    · cases hs
  case istore k =>
    obtain ⟨rfl, hd⟩ := hns rfl
    dsimp only [am_step] at hs
    dsimp only [am_eX] at eX
    rw [Bool.and_eq_true] at eX
    obtain ⟨eX, eL⟩ := eX
    have q := Nat.eq_of_beq_eq_true eX; subst q
    obtain ⟨a, s1, e9, hs9⟩ := am_i1_some hs; clear hs; subst e9; have hs := hs9; clear hs9
    exact am_t_istore X hd (Nat.le_of_ble_eq_true eL) (IHg _ _ _ _ _ _ hs)
  case istore_n k =>
    obtain ⟨rfl, hd⟩ := hns rfl
    dsimp only [am_step] at hs
    dsimp only [am_eX] at eX
    rw [Bool.and_eq_true] at eX
    obtain ⟨eX, eL⟩ := eX
    have q := Nat.eq_of_beq_eq_true eX; subst q
    obtain ⟨a, s1, e9, hs9⟩ := am_i1_some hs; clear hs; subst e9; have hs := hs9; clear hs9
    exact am_t_istore_n X hd (Nat.le_of_ble_eq_true eL) (IHg _ _ _ _ _ _ hs)
  case lstore k =>
    obtain ⟨rfl, hd⟩ := hns rfl
    dsimp only [am_step] at hs
    dsimp only [am_eX] at eX
    rw [Bool.and_eq_true] at eX
    obtain ⟨eX, eL⟩ := eX
    have q := Nat.eq_of_beq_eq_true eX; subst q
    obtain ⟨a, s1, e9, hs9⟩ := am_l1_some hs; clear hs; subst e9; have hs := hs9; clear hs9
    exact am_t_lstore X hd (Nat.le_of_ble_eq_true eL) (IHg _ _ _ _ _ _ hs)
  case lstore_n k =>
    obtain ⟨rfl, hd⟩ := hns rfl
    dsimp only [am_step] at hs
    dsimp only [am_eX] at eX
    rw [Bool.and_eq_true] at eX
    obtain ⟨eX, eL⟩ := eX
    have q := Nat.eq_of_beq_eq_true eX; subst q
    obtain ⟨a, s1, e9, hs9⟩ := am_l1_some hs; clear hs; subst e9; have hs := hs9; clear hs9
    exact am_t_lstore_n X hd (Nat.le_of_ble_eq_true eL) (IHg _ _ _ _ _ _ hs)
  case astore k =>
    obtain ⟨rfl, hd⟩ := hns rfl
    dsimp only [am_step] at hs
    dsimp only [am_eX] at eX
    rw [Bool.and_eq_true] at eX
    obtain ⟨eX, eL⟩ := eX
    have q := Nat.eq_of_beq_eq_true eX; subst q
    obtain ⟨a, s1, e9, hs9⟩ := am_r1_some hs; clear hs; subst e9; have hs := hs9; clear hs9
    cases a with
    | zero => cases hs
    | succ a => exact am_t_astore X hd (Nat.le_of_ble_eq_true eL) (IHg _ _ _ _ _ _ hs)
  case astore_n k =>
    obtain ⟨rfl, hd⟩ := hns rfl
    dsimp only [am_step] at hs
    dsimp only [am_eX] at eX
    rw [Bool.and_eq_true] at eX
    obtain ⟨eX, eL⟩ := eX
    have q := Nat.eq_of_beq_eq_true eX; subst q
    obtain ⟨a, s1, e9, hs9⟩ := am_r1_some hs; clear hs; subst e9; have hs := hs9; clear hs9
    cases a with
    | zero => cases hs
    | succ a => exact am_t_astore_n X hd (Nat.le_of_ble_eq_true eL) (IHg _ _ _ _ _ _ hs)
  case iinc k n =>
    obtain ⟨rfl, hd⟩ := hns rfl
    dsimp only [am_step] at hs
    dsimp only [am_eX] at eX
    rw [Bool.and_eq_true] at eX
    obtain ⟨eX, eL⟩ := eX
    have q := Nat.eq_of_beq_eq_true eX; subst q
    split at hs
    · next x e1 => exact am_t_iinc X hd (Nat.le_of_ble_eq_true eL) e1 (IHg _ _ _ _ _ _ hs)
    · cases hs
  case iconst n =>
    obtain ⟨rfl, hd⟩ := hns rfl
    dsimp only [am_step] at hs
    dsimp only [am_eX] at eX
    rw [Bool.and_eq_true, decide_eq_true_eq] at eX
    exact am_t_iconst X hd eX.1 (am_i32b_ok eX.2) (IHg _ _ _ _ _ _ hs)
  case bipush n =>
    obtain ⟨rfl, hd⟩ := hns rfl
    dsimp only [am_step] at hs
    dsimp only [am_eX] at eX
    rw [Bool.and_eq_true, decide_eq_true_eq] at eX
    exact am_t_bipush X hd eX.1 (am_i32b_ok eX.2) (IHg _ _ _ _ _ _ hs)
  case sipush n =>
    obtain ⟨rfl, hd⟩ := hns rfl
    dsimp only [am_step] at hs
    dsimp only [am_eX] at eX
    rw [Bool.and_eq_true, decide_eq_true_eq] at eX
    exact am_t_sipush X hd eX.1 (am_i32b_ok eX.2) (IHg _ _ _ _ _ _ hs)
  case lconst n =>
    obtain ⟨rfl, hd⟩ := hns rfl
    dsimp only [am_step] at hs
    dsimp only [am_eX] at eX
    rw [Bool.and_eq_true, decide_eq_true_eq] at eX
    exact am_t_lconst X hd eX.1 (am_i64b_ok eX.2) (IHg _ _ _ _ _ _ hs)
  case ldc k =>
    obtain ⟨rfl, hd⟩ := hns rfl
    dsimp only [am_step] at hs
    dsimp only [am_eX] at eX
    rw [Bool.and_eq_true, decide_eq_true_eq] at eX
    exact am_t_ldc X hd (by rw [hcn]; exact tKI _ _ _ eX.1) (am_i32b_ok eX.2) (IHg _ _ _ _ _ _ hs)
  case ldc_w k =>
    obtain ⟨rfl, hd⟩ := hns rfl
    dsimp only [am_step] at hs
    dsimp only [am_eX] at eX
    rw [Bool.and_eq_true, decide_eq_true_eq] at eX
    exact am_t_ldcw X hd (by rw [hcn]; exact tKI _ _ _ eX.1) (am_i32b_ok eX.2) (IHg _ _ _ _ _ _ hs)
  case ldc2_w k =>
    obtain ⟨rfl, hd⟩ := hns rfl
    dsimp only [am_step] at hs
    dsimp only [am_eX] at eX
    rw [Bool.and_eq_true, decide_eq_true_eq] at eX
    exact am_t_ldc2 X hd (by rw [hcn]; exact tKL _ _ _ eX.1) (am_i64b_ok eX.2) (IHg _ _ _ _ _ _ hs)
  case iadd =>
    obtain ⟨rfl, hd⟩ := hns rfl
    dsimp only [am_step] at hs
    obtain ⟨b, s1, e9, hs9⟩ := am_i1_some hs; clear hs; subst e9; have hs := hs9; clear hs9
    obtain ⟨a, s2, e9, hs9⟩ := am_i1_some hs; clear hs; subst e9; have hs := hs9; clear hs9
    exact am_t_iadd X hd (IHg _ _ _ _ _ _ hs)
  case isub =>
    obtain ⟨rfl, hd⟩ := hns rfl
    dsimp only [am_step] at hs
    obtain ⟨b, s1, e9, hs9⟩ := am_i1_some hs; clear hs; subst e9; have hs := hs9; clear hs9
    obtain ⟨a, s2, e9, hs9⟩ := am_i1_some hs; clear hs; subst e9; have hs := hs9; clear hs9
    exact am_t_isub X hd (IHg _ _ _ _ _ _ hs)
  case imul =>
    obtain ⟨rfl, hd⟩ := hns rfl
    dsimp only [am_step] at hs
    obtain ⟨b, s1, e9, hs9⟩ := am_i1_some hs; clear hs; subst e9; have hs := hs9; clear hs9
    obtain ⟨a, s2, e9, hs9⟩ := am_i1_some hs; clear hs; subst e9; have hs := hs9; clear hs9
    exact am_t_imul X hd (IHg _ _ _ _ _ _ hs)
  case iand =>
    obtain ⟨rfl, hd⟩ := hns rfl
    dsimp only [am_step] at hs
    obtain ⟨b, s1, e9, hs9⟩ := am_i1_some hs; clear hs; subst e9; have hs := hs9; clear hs9
    obtain ⟨a, s2, e9, hs9⟩ := am_i1_some hs; clear hs; subst e9; have hs := hs9; clear hs9
    exact am_t_iand X hd (IHg _ _ _ _ _ _ hs)
  case ior =>
    obtain ⟨rfl, hd⟩ := hns rfl
    dsimp only [am_step] at hs
    obtain ⟨b, s1, e9, hs9⟩ := am_i1_some hs; clear hs; subst e9; have hs := hs9; clear hs9
    obtain ⟨a, s2, e9, hs9⟩ := am_i1_some hs; clear hs; subst e9; have hs := hs9; clear hs9
    exact am_t_ior X hd (IHg _ _ _ _ _ _ hs)
  case ixor =>
    obtain ⟨rfl, hd⟩ := hns rfl
    dsimp only [am_step] at hs
    obtain ⟨b, s1, e9, hs9⟩ := am_i1_some hs; clear hs; subst e9; have hs := hs9; clear hs9
    obtain ⟨a, s2, e9, hs9⟩ := am_i1_some hs; clear hs; subst e9; have hs := hs9; clear hs9
    exact am_t_ixor X hd (IHg _ _ _ _ _ _ hs)
  case ishl =>
    obtain ⟨rfl, hd⟩ := hns rfl
    dsimp only [am_step] at hs
    obtain ⟨b, s1, e9, hs9⟩ := am_i1_some hs; clear hs; subst e9; have hs := hs9; clear hs9
    obtain ⟨a, s2, e9, hs9⟩ := am_i1_some hs; clear hs; subst e9; have hs := hs9; clear hs9
    exact am_t_ishl X hd (IHg _ _ _ _ _ _ hs)
  case ishr =>
    obtain ⟨rfl, hd⟩ := hns rfl
    dsimp only [am_step] at hs
    obtain ⟨b, s1, e9, hs9⟩ := am_i1_some hs; clear hs; subst e9; have hs := hs9; clear hs9
    obtain ⟨a, s2, e9, hs9⟩ := am_i1_some hs; clear hs; subst e9; have hs := hs9; clear hs9
    exact am_t_ishr X hd (IHg _ _ _ _ _ _ hs)
  case iushr =>
    obtain ⟨rfl, hd⟩ := hns rfl
    dsimp only [am_step] at hs
    obtain ⟨b, s1, e9, hs9⟩ := am_i1_some hs; clear hs; subst e9; have hs := hs9; clear hs9
    obtain ⟨a, s2, e9, hs9⟩ := am_i1_some hs; clear hs; subst e9; have hs := hs9; clear hs9
    exact am_t_iushr X hd (IHg _ _ _ _ _ _ hs)
  case idiv =>
    obtain ⟨rfl, hd⟩ := hns rfl
    dsimp only [am_step] at hs
    obtain ⟨b, s1, e9, hs9⟩ := am_i1_some hs; clear hs; subst e9; have hs := hs9; clear hs9
    obtain ⟨a, s2, e9, hs9⟩ := am_i1_some hs; clear hs; subst e9; have hs := hs9; clear hs9
    obtain ⟨hne, hs9⟩ := am_ifn_some hs; clear hs; have hs := hs9; clear hs9
    exact am_t_idiv X hd hne (IHg _ _ _ _ _ _ hs)
  case irem =>
    obtain ⟨rfl, hd⟩ := hns rfl
    dsimp only [am_step] at hs
    obtain ⟨b, s1, e9, hs9⟩ := am_i1_some hs; clear hs; subst e9; have hs := hs9; clear hs9
    obtain ⟨a, s2, e9, hs9⟩ := am_i1_some hs; clear hs; subst e9; have hs := hs9; clear hs9
    obtain ⟨hne, hs9⟩ := am_ifn_some hs; clear hs; have hs := hs9; clear hs9
    exact am_t_irem X hd hne (IHg _ _ _ _ _ _ hs)
  case ladd =>
    obtain ⟨rfl, hd⟩ := hns rfl
    dsimp only [am_step] at hs
    obtain ⟨b, s1, e9, hs9⟩ := am_l1_some hs; clear hs; subst e9; have hs := hs9; clear hs9
    obtain ⟨a, s2, e9, hs9⟩ := am_l1_some hs; clear hs; subst e9; have hs := hs9; clear hs9
    exact am_t_ladd X hd (IHg _ _ _ _ _ _ hs)
  case lsub =>
    obtain ⟨rfl, hd⟩ := hns rfl
    dsimp only [am_step] at hs
    obtain ⟨b, s1, e9, hs9⟩ := am_l1_some hs; clear hs; subst e9; have hs := hs9; clear hs9
    obtain ⟨a, s2, e9, hs9⟩ := am_l1_some hs; clear hs; subst e9; have hs := hs9; clear hs9
    exact am_t_lsub X hd (IHg _ _ _ _ _ _ hs)
  case lmul =>
    obtain ⟨rfl, hd⟩ := hns rfl
    dsimp only [am_step] at hs
    obtain ⟨b, s1, e9, hs9⟩ := am_l1_some hs; clear hs; subst e9; have hs := hs9; clear hs9
    obtain ⟨a, s2, e9, hs9⟩ := am_l1_some hs; clear hs; subst e9; have hs := hs9; clear hs9
    exact am_t_lmul X hd (IHg _ _ _ _ _ _ hs)
  case land =>
    obtain ⟨rfl, hd⟩ := hns rfl
    dsimp only [am_step] at hs
    obtain ⟨b, s1, e9, hs9⟩ := am_l1_some hs; clear hs; subst e9; have hs := hs9; clear hs9
    obtain ⟨a, s2, e9, hs9⟩ := am_l1_some hs; clear hs; subst e9; have hs := hs9; clear hs9
    exact am_t_land X hd (IHg _ _ _ _ _ _ hs)
  case lor =>
    obtain ⟨rfl, hd⟩ := hns rfl
    dsimp only [am_step] at hs
    obtain ⟨b, s1, e9, hs9⟩ := am_l1_some hs; clear hs; subst e9; have hs := hs9; clear hs9
    obtain ⟨a, s2, e9, hs9⟩ := am_l1_some hs; clear hs; subst e9; have hs := hs9; clear hs9
    exact am_t_lor X hd (IHg _ _ _ _ _ _ hs)
  case ldiv =>
    obtain ⟨rfl, hd⟩ := hns rfl
    dsimp only [am_step] at hs
    obtain ⟨b, s1, e9, hs9⟩ := am_l1_some hs; clear hs; subst e9; have hs := hs9; clear hs9
    obtain ⟨a, s2, e9, hs9⟩ := am_l1_some hs; clear hs; subst e9; have hs := hs9; clear hs9
    obtain ⟨hne, hs9⟩ := am_ifn_some hs; clear hs; have hs := hs9; clear hs9
    exact am_t_ldiv X hd hne (IHg _ _ _ _ _ _ hs)
  case lrem =>
    obtain ⟨rfl, hd⟩ := hns rfl
    dsimp only [am_step] at hs
    obtain ⟨b, s1, e9, hs9⟩ := am_l1_some hs; clear hs; subst e9; have hs := hs9; clear hs9
    obtain ⟨a, s2, e9, hs9⟩ := am_l1_some hs; clear hs; subst e9; have hs := hs9; clear hs9
    obtain ⟨hne, hs9⟩ := am_ifn_some hs; clear hs; have hs := hs9; clear hs9
    exact am_t_lrem X hd hne (IHg _ _ _ _ _ _ hs)
  case lshl =>
    obtain ⟨rfl, hd⟩ := hns rfl
    dsimp only [am_step] at hs
    obtain ⟨b, s1, e9, hs9⟩ := am_i1_some hs; clear hs; subst e9; have hs := hs9; clear hs9
    obtain ⟨a, s2, e9, hs9⟩ := am_l1_some hs; clear hs; subst e9; have hs := hs9; clear hs9
    exact am_t_lshl X hd (IHg _ _ _ _ _ _ hs)
  case lushr =>
    obtain ⟨rfl, hd⟩ := hns rfl
    dsimp only [am_step] at hs
    obtain ⟨b, s1, e9, hs9⟩ := am_i1_some hs; clear hs; subst e9; have hs := hs9; clear hs9
    obtain ⟨a, s2, e9, hs9⟩ := am_l1_some hs; clear hs; subst e9; have hs := hs9; clear hs9
    exact am_t_lushr X hd (IHg _ _ _ _ _ _ hs)
  case lcmp =>
    obtain ⟨rfl, hd⟩ := hns rfl
    dsimp only [am_step] at hs
    obtain ⟨b, s1, e9, hs9⟩ := am_l1_some hs; clear hs; subst e9; have hs := hs9; clear hs9
    obtain ⟨a, s2, e9, hs9⟩ := am_l1_some hs; clear hs; subst e9; have hs := hs9; clear hs9
    exact am_t_lcmp X hd (IHg _ _ _ _ _ _ hs)
  case i2l =>
    obtain ⟨rfl, hd⟩ := hns rfl
    dsimp only [am_step] at hs
    obtain ⟨a, s1, e9, hs9⟩ := am_i1_some hs; clear hs; subst e9; have hs := hs9; clear hs9
    exact am_t_i2l X hd (IHg _ _ _ _ _ _ hs)
  case l2i =>
    obtain ⟨rfl, hd⟩ := hns rfl
    dsimp only [am_step] at hs
    obtain ⟨a, s1, e9, hs9⟩ := am_l1_some hs; clear hs; subst e9; have hs := hs9; clear hs9
    exact am_t_l2i X hd (IHg _ _ _ _ _ _ hs)
  case i2b =>
    obtain ⟨rfl, hd⟩ := hns rfl
    dsimp only [am_step] at hs
    obtain ⟨a, s1, e9, hs9⟩ := am_i1_some hs; clear hs; subst e9; have hs := hs9; clear hs9
    exact am_t_i2b X hd (IHg _ _ _ _ _ _ hs)
  case dup =>
    obtain ⟨rfl, hd⟩ := hns rfl
    dsimp only [am_step] at hs
    split at hs
    · exact am_t_dup X rfl hd (IHg _ _ _ _ _ _ hs)
    · exact am_t_dup X rfl hd (IHg _ _ _ _ _ _ hs)
    · cases hs
  case dup2 =>
    obtain ⟨rfl, hd⟩ := hns rfl
    dsimp only [am_step] at hs
    split at hs
    · exact am_t_dup2 X rfl rfl hd (IHg _ _ _ _ _ _ hs)
    · cases hs
  case getfield k =>
    obtain ⟨rfl, hd⟩ := hns rfl
    dsimp only [am_step] at hs
    dsimp only [am_eX] at eX
    rw [Bool.and_eq_true, decide_eq_true_eq, decide_eq_true_eq] at eX
    obtain ⟨C, T, N, g1, g2, g3, g4⟩ := tFL _ _ _ _ eX.1
    obtain ⟨q, s1, e9, hs9⟩ := am_r1_some hs; clear hs; subst e9; have hs := hs9; clear hs9
    obtain ⟨j, e9, hj, hjk, hs9⟩ := am_ob_some hs; clear hs; subst e9; have hs := hs9; clear hs9
    have hs : go (pc + 3) ls (am_pv x3 (h.2 j (x2 : Int)) (h.1.2.2 j (x2 : Int)) :: s1) h cb sb = some (r, h') := by
      match x3, hs with
      | 0, hs => exact hs
      | 1, hs => exact hs
      | 2, hs => exact hs
      | _ + 3, hs => exact hs
    exact am_t_get X hC g1 (by rw [hcn]; exact g2) eX.2 hj hjk hd (IHg _ _ _ _ _ _ hs)
  case putfield k =>
    obtain ⟨rfl, hd⟩ := hns rfl
    dsimp only [am_step] at hs
    dsimp only [am_eX] at eX
    rw [Bool.and_eq_true, Bool.and_eq_true, decide_eq_true_eq, decide_eq_true_eq] at eX
    obtain ⟨⟨f1, f2⟩, f3⟩ := eX
    obtain ⟨C, T, N, g1, g2, g3, g4⟩ := tFL _ _ _ _ f1
    have g2' : Cond.fieldLink (t.nm z0).cls k (T x2).1 (T x2).2.1 (T x2).2.2.1 ∈ Ts := by rw [hcn]; exact g2
    have hfin : (T x2).2.2.2 = false ∨ ((T x2).2.2.2 = true ∧ (t.nm z0).name = "<init>" ∧ (T x2).1 = (t.nm z0).cls) := by
      rw [← g3]
      cases hf : fin x1 x2 with
      | false => exact Or.inl rfl
      | true =>
        rw [hf, Bool.not_true, Bool.false_or, Bool.and_eq_true] at f3
        obtain ⟨i1, i2⟩ := f3
        refine Or.inr ⟨rfl, (hk2 (Nat.eq_of_beq_eq_true i1)).2.1, ?_⟩
        rw [g4, hcn]
        exact tOC _ _ rfl C T N (by rw [← Nat.eq_of_beq_eq_true i2]; exact g1)
    match x3, f2, hs with
    | 0, f2, hs =>
      obtain ⟨a, s1, e9, hs9⟩ := am_i1_some hs; clear hs; subst e9; have hs := hs9; clear hs9
      obtain ⟨q, s2, e9, hs9⟩ := am_r1_some hs; clear hs; subst e9; have hs := hs9; clear hs9
      obtain ⟨j, e9, hj, hjk, hs9⟩ := am_ob_some hs; clear hs; subst e9; have hs := hs9; clear hs9
      rcases hfin with hf | ⟨hf, hi, ho⟩
      · exact am_t_putI X hC g1 g2' f2 hf hj hjk hd (IHg _ _ _ _ _ _ hs)
      · exact am_t_putIF X hC g1 g2' f2 hf hi ho hj hjk hd (IHg _ _ _ _ _ _ hs)
    | 1, f2, hs =>
      obtain ⟨a, s1, e9, hs9⟩ := am_l1_some hs; clear hs; subst e9; have hs := hs9; clear hs9
      obtain ⟨q, s2, e9, hs9⟩ := am_r1_some hs; clear hs; subst e9; have hs := hs9; clear hs9
      obtain ⟨j, e9, hj, hjk, hs9⟩ := am_ob_some hs; clear hs; subst e9; have hs := hs9; clear hs9
      rcases hfin with hf | ⟨hf, hi, ho⟩
      · exact am_t_putL X hC g1 g2' f2 hf hj hjk hd (IHg _ _ _ _ _ _ hs)
      · exact am_t_putLF X hC g1 g2' f2 hf hi ho hj hjk hd (IHg _ _ _ _ _ _ hs)
    | 2, f2, hs =>
      obtain ⟨a, s1, e9, hs9⟩ := am_r1_some hs; clear hs; subst e9; have hs := hs9; clear hs9
      obtain ⟨q, s2, e9, hs9⟩ := am_r1_some hs; clear hs; subst e9; have hs := hs9; clear hs9
      obtain ⟨j, e9, hj, hjk, hs9⟩ := am_ob_some hs; clear hs; subst e9; have hs := hs9; clear hs9
      obtain ⟨-, hs9⟩ := am_bif_some hs; clear hs; have hs := hs9; clear hs9
      rcases hfin with hf | ⟨hf, hi, ho⟩
      · exact am_t_putR X hC g1 g2' f2 hf hj hjk hd (IHg _ _ _ _ _ _ hs)
      · exact am_t_putRF X hC g1 g2' f2 hf hi ho hj hjk hd (IHg _ _ _ _ _ _ hs)
    | u + 3, f2, hs =>
      obtain ⟨a, s1, e9, hs9⟩ := am_i1_some hs; clear hs; subst e9; have hs := hs9; clear hs9
      obtain ⟨q, s2, e9, hs9⟩ := am_r1_some hs; clear hs; subst e9; have hs := hs9; clear hs9
      obtain ⟨j, e9, hj, hjk, hs9⟩ := am_ob_some hs; clear hs; subst e9; have hs := hs9; clear hs9
      obtain ⟨hz, hs9⟩ := am_if_some hs; clear hs; have hs := hs9; clear hs9
      have hu : u = 0 := by
        obtain ⟨-, ty0, -, -, -, htk⟩ := hC x1 C T N g1
        have q := htk x2 (u + 3) f2
        match u, q with
        | 0, _ => rfl
        | _ + 1, q => exact q.elim
      subst hu
      rcases hfin with hf | ⟨hf, hi, ho⟩
      · exact am_t_putZ X hC g1 g2' f2 hf hz hj hjk hd (IHg _ _ _ _ _ _ hs)
      · exact am_t_putZF X hC g1 g2' f2 hf hi ho hz hj hjk hd (IHg _ _ _ _ _ _ hs)
  case iaload =>
    obtain ⟨rfl, hd⟩ := hns rfl
    dsimp only [am_step] at hs
    obtain ⟨a, s1, e9, hs9⟩ := am_i1_some hs; clear hs; subst e9; have hs := hs9; clear hs9
    obtain ⟨q, s2, e9, hs9⟩ := am_r1_some hs; clear hs; subst e9; have hs := hs9; clear hs9
    obtain ⟨j, e9, hj, hjk, hs9⟩ := am_ob_some hs; clear hs; subst e9; have hs := hs9; clear hs9
    obtain ⟨hi, hs9⟩ := am_if_some hs; clear hs; have hs := hs9; clear hs9
    exact am_t_iaload X hj hjk hi.1 hi.2 hd (IHg _ _ _ _ _ _ hs)
  case laload =>
    obtain ⟨rfl, hd⟩ := hns rfl
    dsimp only [am_step] at hs
    obtain ⟨a, s1, e9, hs9⟩ := am_i1_some hs; clear hs; subst e9; have hs := hs9; clear hs9
    obtain ⟨q, s2, e9, hs9⟩ := am_r1_some hs; clear hs; subst e9; have hs := hs9; clear hs9
    obtain ⟨j, e9, hj, hjk, hs9⟩ := am_ob_some hs; clear hs; subst e9; have hs := hs9; clear hs9
    obtain ⟨hi, hs9⟩ := am_if_some hs; clear hs; have hs := hs9; clear hs9
    exact am_t_laload X hj hjk hi.1 hi.2 hd (IHg _ _ _ _ _ _ hs)
  case baload =>
    obtain ⟨rfl, hd⟩ := hns rfl
    dsimp only [am_step] at hs
    obtain ⟨a, s1, e9, hs9⟩ := am_i1_some hs; clear hs; subst e9; have hs := hs9; clear hs9
    obtain ⟨q, s2, e9, hs9⟩ := am_r1_some hs; clear hs; subst e9; have hs := hs9; clear hs9
    obtain ⟨j, e9, hj, hjk, hs9⟩ := am_ob_some hs; clear hs; subst e9; have hs := hs9; clear hs9
    obtain ⟨hi, hs9⟩ := am_if_some hs; clear hs; have hs := hs9; clear hs9
    exact am_t_baload X hj hjk hi.1 hi.2 hd (IHg _ _ _ _ _ _ hs)
  case aaload =>
    obtain ⟨rfl, hd⟩ := hns rfl
    dsimp only [am_step] at hs
    dsimp only [am_eX] at eX
    rw [Bool.or_eq_true] at eX
    obtain ⟨a, s1, e9, hs9⟩ := am_i1_some hs; clear hs; subst e9; have hs := hs9; clear hs9
    obtain ⟨q, s2, e9, hs9⟩ := am_r1_some hs; clear hs; subst e9; have hs := hs9; clear hs9
    obtain ⟨j, e9, hj, hjk, hs9⟩ := am_ob_some hs; clear hs; subst e9; have hs := hs9; clear hs9
    obtain ⟨hi, hs9⟩ := am_if_some hs; clear hs; have hs := hs9; clear hs9
    exact am_t_aaload X (eX.imp Nat.eq_of_beq_eq_true Nat.eq_of_beq_eq_true) hj hjk hi.1 hi.2 hd (IHg _ _ _ _ _ _ hs)
  case iastore =>
    obtain ⟨rfl, hd⟩ := hns rfl
    dsimp only [am_step] at hs
    obtain ⟨v0, s0, e9, hs9⟩ := am_i1_some hs; clear hs; subst e9; have hs := hs9; clear hs9
    obtain ⟨a, s1, e9, hs9⟩ := am_i1_some hs; clear hs; subst e9; have hs := hs9; clear hs9
    obtain ⟨q, s2, e9, hs9⟩ := am_r1_some hs; clear hs; subst e9; have hs := hs9; clear hs9
    obtain ⟨j, e9, hj, hjk, hs9⟩ := am_ob_some hs; clear hs; subst e9; have hs := hs9; clear hs9
    obtain ⟨hi, hs9⟩ := am_if_some hs; clear hs; have hs := hs9; clear hs9
    exact am_t_iastore X hj hjk hi.1 hi.2 hd (IHg _ _ _ _ _ _ hs)
  case lastore =>
    obtain ⟨rfl, hd⟩ := hns rfl
    dsimp only [am_step] at hs
    obtain ⟨v0, s0, e9, hs9⟩ := am_l1_some hs; clear hs; subst e9; have hs := hs9; clear hs9
    obtain ⟨a, s1, e9, hs9⟩ := am_i1_some hs; clear hs; subst e9; have hs := hs9; clear hs9
    obtain ⟨q, s2, e9, hs9⟩ := am_r1_some hs; clear hs; subst e9; have hs := hs9; clear hs9
    obtain ⟨j, e9, hj, hjk, hs9⟩ := am_ob_some hs; clear hs; subst e9; have hs := hs9; clear hs9
    obtain ⟨hi, hs9⟩ := am_if_some hs; clear hs; have hs := hs9; clear hs9
    exact am_t_lastore X hj hjk hi.1 hi.2 hd (IHg _ _ _ _ _ _ hs)
  case bastore =>
    obtain ⟨rfl, hd⟩ := hns rfl
    dsimp only [am_step] at hs
    obtain ⟨v0, s0, e9, hs9⟩ := am_i1_some hs; clear hs; subst e9; have hs := hs9; clear hs9
    obtain ⟨a, s1, e9, hs9⟩ := am_i1_some hs; clear hs; subst e9; have hs := hs9; clear hs9
    obtain ⟨q, s2, e9, hs9⟩ := am_r1_some hs; clear hs; subst e9; have hs := hs9; clear hs9
    obtain ⟨j, e9, hj, hjk, hs9⟩ := am_ob_some hs; clear hs; subst e9; have hs := hs9; clear hs9
    obtain ⟨hi, hs9⟩ := am_if_some hs; clear hs; have hs := hs9; clear hs9
    exact am_t_bastore X hj hjk hi.1 hi.2 hd (IHg _ _ _ _ _ _ hs)
  case aastore =>
    obtain ⟨rfl, hd⟩ := hns rfl
    dsimp only [am_step] at hs
    dsimp only [am_eX] at eX
    rw [Bool.or_eq_true, Bool.and_eq_true, Bool.and_eq_true] at eX
    obtain ⟨v0, s0, e9, hs9⟩ := am_r1_some hs; clear hs; subst e9; have hs := hs9; clear hs9
    obtain ⟨a, s1, e9, hs9⟩ := am_i1_some hs; clear hs; subst e9; have hs := hs9; clear hs9
    obtain ⟨q, s2, e9, hs9⟩ := am_r1_some hs; clear hs; subst e9; have hs := hs9; clear hs9
    obtain ⟨j, e9, hj, hjk, hs9⟩ := am_ob_some hs; clear hs; subst e9; have hs := hs9; clear hs9
    obtain ⟨j2, e9, hj2, hjk2, hs9⟩ := am_ob_some hs; clear hs; subst e9; have hs := hs9; clear hs9
    obtain ⟨hi, hs9⟩ := am_if_some hs; clear hs; have hs := hs9; clear hs9
    rcases eX with ⟨q1, q2⟩ | ⟨q1, q2⟩
    · obtain ⟨T, N, g1⟩ := tE3
      exact am_t_aastore X (ci := x2) (r2 := (C3, T, N)) (by rw [Nat.eq_of_beq_eq_true q2]; exact g1) (Or.inl ⟨Nat.eq_of_beq_eq_true q1, rfl⟩) hj hjk hj2 hjk2 hi.1 hi.2 hd (IHg _ _ _ _ _ _ hs)
    · obtain ⟨T, N, g1⟩ := tE4
      exact am_t_aastore X (ci := x2) (r2 := (C4, T, N)) (by rw [Nat.eq_of_beq_eq_true q2]; exact g1) (Or.inr ⟨Nat.eq_of_beq_eq_true q1, rfl⟩) hj hjk hj2 hjk2 hi.1 hi.2 hd (IHg _ _ _ _ _ _ hs)
  case arraylength =>
    obtain ⟨rfl, hd⟩ := hns rfl
    dsimp only [am_step] at hs
    obtain ⟨q, s2, e9, hs9⟩ := am_r1_some hs; clear hs; subst e9; have hs := hs9; clear hs9
    obtain ⟨j, e9, hj, hjk, hs9⟩ := am_ob_some hs; clear hs; subst e9; have hs := hs9; clear hs9
    obtain ⟨hi, hs9⟩ := am_bif_some hs; clear hs; have hs := hs9; clear hs9
    rw [Bool.and_eq_true] at hi
    exact am_t_alen X (Nat.le_of_ble_eq_true hi.1) hj hjk (Nat.le_of_ble_eq_true hi.2) hd (IHg _ _ _ _ _ _ hs)
  case goto f =>
    obtain ⟨rfl, hd⟩ := hns rfl
    dsimp only [am_step] at hs
    dsimp only [am_eX] at eX
    exact am_t_goto X hd (of_decide_eq_true eX) (IHg _ _ _ _ _ _ hs)
  case ifCond cnd f =>
    obtain ⟨rfl, hd⟩ := hns rfl
    dsimp only [am_step] at hs
    dsimp only [am_eX] at eX
    have ht := of_decide_eq_true eX
    obtain ⟨a, s1, e9, hs9⟩ := am_i1_some hs; clear hs; subst e9; have hs := hs9; clear hs9
    cases cnd with
    | eq =>
      dsimp only [am_br] at hs
      exact am_t_if_eq X hd ht (fun z => IHg _ _ _ _ _ _ (by rw [if_pos z] at hs; exact hs)) (fun z => IHg _ _ _ _ _ _ (by rw [if_neg z] at hs; exact hs))
    | ne =>
      dsimp only [am_br] at hs
      exact am_t_if_ne X hd ht (fun z => IHg _ _ _ _ _ _ (by rw [if_neg z] at hs; exact hs)) (fun z => IHg _ _ _ _ _ _ (by rw [if_pos z] at hs; exact hs))
    | lt =>
      dsimp only [am_br] at hs
      exact am_t_if_lt X hd ht (fun z => IHg _ _ _ _ _ _ (by rw [if_pos z] at hs; exact hs)) (fun z => IHg _ _ _ _ _ _ (by rw [if_neg z] at hs; exact hs))
    | ge =>
      dsimp only [am_br] at hs
      exact am_t_if_ge X hd ht (fun z => IHg _ _ _ _ _ _ (by rw [if_neg z] at hs; exact hs)) (fun z => IHg _ _ _ _ _ _ (by rw [if_pos z] at hs; exact hs))
    | gt =>
      dsimp only [am_br] at hs
      exact am_t_if_gt X hd ht (fun z => IHg _ _ _ _ _ _ (by rw [if_pos z] at hs; exact hs)) (fun z => IHg _ _ _ _ _ _ (by rw [if_neg z] at hs; exact hs))
    | le =>
      dsimp only [am_br] at hs
      exact am_t_if_le X hd ht (fun z => IHg _ _ _ _ _ _ (by rw [if_neg z] at hs; exact hs)) (fun z => IHg _ _ _ _ _ _ (by rw [if_pos z] at hs; exact hs))
  case if_icmp cnd f =>
    obtain ⟨rfl, hd⟩ := hns rfl
    dsimp only [am_step] at hs
    dsimp only [am_eX] at eX
    have ht := of_decide_eq_true eX
    obtain ⟨b, s1, e9, hs9⟩ := am_i1_some hs; clear hs; subst e9; have hs := hs9; clear hs9
    obtain ⟨a, s2, e9, hs9⟩ := am_i1_some hs; clear hs; subst e9; have hs := hs9; clear hs9
    cases cnd with
    | eq =>
      dsimp only [am_br] at hs
      exact am_t_icmp_eq X hd ht (fun z => IHg _ _ _ _ _ _ (by rw [if_pos z] at hs; exact hs)) (fun z => IHg _ _ _ _ _ _ (by rw [if_neg z] at hs; exact hs))
    | ne =>
      dsimp only [am_br] at hs
      exact am_t_icmp_ne X hd ht (fun z => IHg _ _ _ _ _ _ (by rw [if_neg z] at hs; exact hs)) (fun z => IHg _ _ _ _ _ _ (by rw [if_pos z] at hs; exact hs))
    | lt =>
      dsimp only [am_br] at hs
      exact am_t_icmp_lt X hd ht (fun z => IHg _ _ _ _ _ _ (by rw [if_pos z] at hs; exact hs)) (fun z => IHg _ _ _ _ _ _ (by rw [if_neg z] at hs; exact hs))
    | ge =>
      dsimp only [am_br] at hs
      exact am_t_icmp_ge X hd ht (fun z => IHg _ _ _ _ _ _ (by rw [if_neg z] at hs; exact hs)) (fun z => IHg _ _ _ _ _ _ (by rw [if_pos z] at hs; exact hs))
    | gt =>
      dsimp only [am_br] at hs
      exact am_t_icmp_gt X hd ht (fun z => IHg _ _ _ _ _ _ (by rw [if_pos z] at hs; exact hs)) (fun z => IHg _ _ _ _ _ _ (by rw [if_neg z] at hs; exact hs))
    | le =>
      dsimp only [am_br] at hs
      exact am_t_icmp_le X hd ht (fun z => IHg _ _ _ _ _ _ (by rw [if_neg z] at hs; exact hs)) (fun z => IHg _ _ _ _ _ _ (by rw [if_pos z] at hs; exact hs))
  case tableswitch df lo hi offs =>
    dsimp only [am_step] at hs
    dsimp only [am_eX] at eX
    rw [Bool.and_eq_true, Bool.and_eq_true, decide_eq_true_eq, decide_eq_true_eq] at eX
    obtain ⟨⟨q1, q2⟩, q3⟩ := eX
    obtain ⟨a, s1, e9, hs9⟩ := am_i1_some hs; clear hs; subst e9; have hs := hs9; clear hs9
    rw [am_sw_to] at hs
    exact am_t_tsw X hd0 (am_tsb_ok _ _ _ q1) q2 q3 (IHg _ _ _ _ _ _ hs)
  case lookupswitch df ps =>
    dsimp only [am_step] at hs
    dsimp only [am_eX] at eX
    rw [Bool.and_eq_true, Bool.and_eq_true, decide_eq_true_eq] at eX
    obtain ⟨⟨q1, q2⟩, q3⟩ := eX
    obtain ⟨a, s1, e9, hs9⟩ := am_i1_some hs; clear hs; subst e9; have hs := hs9; clear hs9
    rw [am_sw_to] at hs
    exact am_t_lsw X hd0 (am_lsb_ok _ _ q1) q2 q3 (IHg _ _ _ _ _ _ hs)
  case ireturn =>
    obtain ⟨rfl, hd⟩ := hns rfl
    dsimp only [am_step] at hs
    split at hs
    · obtain ⟨a, s1, e9, hs9⟩ := am_i1_some hs; clear hs; subst e9; have hs := hs9; clear hs9
      obtain ⟨he, hs9⟩ := am_bif_some hs; clear hs; have hs := hs9; clear hs9
      have hemp := List.isEmpty_iff.mp he; subst hemp
      cases hs
      exact am_t_ireturn X hrt hd
    · obtain ⟨a, s1, e9, hs9⟩ := am_i1_some hs; clear hs; subst e9; have hs := hs9; clear hs9
      obtain ⟨he, hs9⟩ := am_bif_some hs; clear hs; have hs := hs9; clear hs9
      obtain ⟨hz, hs9⟩ := am_if_some hs; clear hs; have hs := hs9; clear hs9
      have hemp := List.isEmpty_iff.mp he; subst hemp
      cases hs
      exact am_t_zreturn X hrt hz hd
    · cases hs
  case lreturn =>
    obtain ⟨rfl, hd⟩ := hns rfl
    dsimp only [am_step] at hs
    split at hs
    · obtain ⟨a, s1, e9, hs9⟩ := am_l1_some hs; clear hs; subst e9; have hs := hs9; clear hs9
      obtain ⟨he, hs9⟩ := am_bif_some hs; clear hs; have hs := hs9; clear hs9
      have hemp := List.isEmpty_iff.mp he; subst hemp
      cases hs
      exact am_t_lreturn X hrt hd
    · cases hs
  case areturn =>
    obtain ⟨rfl, hd⟩ := hns rfl
    dsimp only [am_step] at hs
    split at hs
    · obtain ⟨a, s1, e9, hs9⟩ := am_r1_some hs; clear hs; subst e9; have hs := hs9; clear hs9
      obtain ⟨he, hs9⟩ := am_bif_some hs; clear hs; have hs := hs9; clear hs9
      have hemp := List.isEmpty_iff.mp he; subst hemp
      obtain ⟨C, hrt⟩ := hrt
      cases a with
      | zero => cases hs
      | succ k =>
        cases hs
        exact am_t_areturn X hrt hd
    · cases hs
  case return_ =>
    obtain ⟨rfl, hd⟩ := hns rfl
    dsimp only [am_step] at hs
    split at hs
    · obtain ⟨he, hs9⟩ := am_bif_some hs; clear hs; have hs := hs9; clear hs9
      have hemp := List.isEmpty_iff.mp he; subst hemp
      cases hs
      exact am_t_return X hrt hd
    · cases hs
  case new k =>
    obtain ⟨rfl, hd⟩ := hns rfl
    dsimp only [am_step] at hs
    dsimp only [am_eX] at eX
    rw [Bool.and_eq_true, decide_eq_true_eq] at eX
    obtain ⟨C, T, N, g1, g2, g3, g4⟩ := tCL _ _ _ eX.1
    obtain ⟨hi, hs9⟩ := am_bif_some hs; clear hs; have hs := hs9; clear hs9
    rw [Bool.and_eq_true] at hi
    have hN : x2 = N := (Nat.eq_of_beq_eq_true eX.2).trans (by obtain ⟨-, ty0, -, -, hln, -⟩ := hC x1 C T N g1; exact hln)
    subst hN
    exact am_t_new X hC g1 (by rw [hcn]; exact g2) g3 g4 (Nat.le_of_ble_eq_true hi.1) (Nat.le_of_ble_eq_true hi.2) hd (IHg _ _ _ _ _ _ hs)
  case newarray at0 =>
    obtain ⟨rfl, hd⟩ := hns rfl
    dsimp only [am_step] at hs
    dsimp only [am_eX] at eX
    rw [Bool.or_eq_true, Bool.or_eq_true, Bool.and_eq_true, Bool.and_eq_true, Bool.and_eq_true, decide_eq_true_eq, decide_eq_true_eq, decide_eq_true_eq] at eX
    obtain ⟨n, s1, e9, hs9⟩ := am_i1_some hs; clear hs; subst e9; have hs := hs9; clear hs9
    obtain ⟨hi, hs9⟩ := am_if_some hs; clear hs; have hs := hs9; clear hs9
    obtain ⟨hj, hs9⟩ := am_bif_some hs; clear hs; have hs := hs9; clear hs9
    rw [Bool.and_eq_true] at hj
    have hk : (x1 = 0 ∧ at0 = .int) ∨ (x1 = 1 ∧ at0 = .long) ∨ (x1 = 2 ∧ at0 = .byte) := by
      rcases eX with (q | q) | q
      · exact Or.inl ⟨Nat.eq_of_beq_eq_true q.1, q.2⟩
      · exact Or.inr (Or.inl ⟨Nat.eq_of_beq_eq_true q.1, q.2⟩)
      · exact Or.inr (Or.inr ⟨Nat.eq_of_beq_eq_true q.1, q.2⟩)
    exact am_t_newarr X hk (by rcases hk with ⟨-, rfl⟩ | ⟨-, rfl⟩ | ⟨-, rfl⟩ <;> assumption) hi.1 hi.2 (Nat.le_of_ble_eq_true hj.1) (Nat.le_of_ble_eq_true hj.2) hd (IHg _ _ _ _ _ _ hs)
  case anewarray k =>
    obtain ⟨rfl, hd⟩ := hns rfl
    dsimp only [am_step] at hs
    dsimp only [am_eX] at eX
    have eX := of_decide_eq_true eX
    obtain ⟨n, s1, e9, hs9⟩ := am_i1_some hs; clear hs; subst e9; have hs := hs9; clear hs9
    obtain ⟨hi, hs9⟩ := am_if_some hs; clear hs; have hs := hs9; clear hs9
    obtain ⟨hj, hs9⟩ := am_bif_some hs; clear hs; have hs := hs9; clear hs9
    rw [Bool.and_eq_true] at hj
    rcases tAL _ _ _ eX with ⟨q1, q2⟩ | ⟨q1, q2⟩
    · exact am_t_anew X (C := C3) (Or.inl ⟨q1, rfl⟩) (by rw [hcn]; exact q2) hi.1 hi.2 (Nat.le_of_ble_eq_true hj.1) (Nat.le_of_ble_eq_true hj.2) hd (IHg _ _ _ _ _ _ hs)
    · exact am_t_anew X (C := C4) (Or.inr ⟨q1, rfl⟩) (by rw [hcn]; exact q2) hi.1 hi.2 (Nat.le_of_ble_eq_true hj.1) (Nat.le_of_ble_eq_true hj.2) hd (IHg _ _ _ _ _ _ hs)
  case invokevirtual k =>
    obtain ⟨rfl, hd⟩ := hns rfl
    dsimp only [am_step] at hs
    dsimp only [am_eX] at eX
    simp only [Bool.and_eq_true] at eX
    obtain ⟨⟨⟨⟨q1, q2⟩, q3⟩, q4⟩, q5⟩ := eX
    obtain ⟨cdz, mLz, hz⟩ := am_pOK_ok q2
    obtain ⟨z1, -, -, -, z5, -, -, -⟩ := tM _ _ _ _ _ _ hz
    obtain ⟨z5, z6, T, N, z7⟩ := z5 (Nat.eq_of_beq_eq_true q3)
    have e4 := Nat.eq_of_beq_eq_true q4
    subst e4
    split at hs
    · next as s1 hsp =>
      obtain ⟨hi, hs9⟩ := am_bif_some hs; clear hs; have hs := hs9; clear hs9
      simp only [Bool.and_eq_true] at hi
      obtain ⟨⟨⟨hi1, hi2⟩, hi3⟩, hi4⟩ := hi
      obtain ⟨r1, h1, hcal, hs9⟩ := am_call_some hs; clear hs; have hs := hs9; clear hs9
      rw [Nat.eq_of_beq_eq_true q5] at hi1
      exact am_t_callV X hG z7 z1 (by rw [hcn]; exact tML _ _ _ (of_decide_eq_true q1)) z5 z6 hsp hi1 (Nat.le_of_ble_eq_true hi2) (Nat.le_of_ble_eq_true hi3) (Nat.le_of_ble_eq_true hi4) (IHc _ _ _ _ _ hcal _ _ _ _ _ hz) hd (IHg _ _ _ _ _ _ hs)
    · cases hs
  case invokestatic k =>
    obtain ⟨rfl, hd⟩ := hns rfl
    dsimp only [am_step] at hs
    dsimp only [am_eX] at eX
    split at hs
    · have eX := of_decide_eq_true eX
      obtain ⟨w1, w2, w3, w4⟩ := tAC _ _ eX
      obtain ⟨n, s1, e9, hs9⟩ := am_i1_some hs; clear hs; subst e9; have hs := hs9; clear hs9
      obtain ⟨dp, s2, e9, hs9⟩ := am_i1_some hs; clear hs; subst e9; have hs := hs9; clear hs9
      obtain ⟨dd, s3, e9, hs9⟩ := am_r1_some hs; clear hs; subst e9; have hs := hs9; clear hs9
      obtain ⟨sp, s4, e9, hs9⟩ := am_i1_some hs; clear hs; subst e9; have hs := hs9; clear hs9
      obtain ⟨aa, s5, e9, hs9⟩ := am_r1_some hs; clear hs; subst e9; have hs := hs9; clear hs9
      obtain ⟨kd, e9, hj, hjk, hs9⟩ := am_ob_some hs; clear hs; subst e9; have hs := hs9; clear hs9
      obtain ⟨ka, e9, hj2, hjk2, hs9⟩ := am_ob_some hs; clear hs; subst e9; have hs := hs9; clear hs9
      obtain ⟨hi, hs9⟩ := am_bif_some hs; clear hs; have hs := hs9; clear hs9
      obtain ⟨⟨b1, b2, b3, b4, b5⟩, hs9⟩ := am_if_some hs; clear hs; have hs := hs9; clear hs9
      exact am_t_copy X (by rw [hcn]; exact w1) w2 w3 w4 hj2 hj hjk2 hjk b1 b2 b3 b4 b5 (Nat.le_of_ble_eq_true hi) tNF hd (IHg _ _ _ _ _ _ hs)
    · have eX := of_decide_eq_true eX
      obtain ⟨b, s1, e9, hs9⟩ := am_i1_some hs; clear hs; subst e9; have hs := hs9; clear hs9
      obtain ⟨a, s2, e9, hs9⟩ := am_i1_some hs; clear hs; subst e9; have hs := hs9; clear hs9
      obtain ⟨hi, hs9⟩ := am_bif_some hs; clear hs; have hs := hs9; clear hs9
      rcases tMM _ _ _ eX with ⟨-, w1, w2, w3, w4⟩ | ⟨q, -⟩ | ⟨q, -⟩
      · exact am_t_mmax X (by rw [hcn]; exact w1) w2 w3 w4 (Nat.le_of_ble_eq_true hi) hd (IHg _ _ _ _ _ _ hs)
      · cases q
      · cases q
    · have eX := of_decide_eq_true eX
      obtain ⟨b, s1, e9, hs9⟩ := am_i1_some hs; clear hs; subst e9; have hs := hs9; clear hs9
      obtain ⟨a, s2, e9, hs9⟩ := am_i1_some hs; clear hs; subst e9; have hs := hs9; clear hs9
      obtain ⟨hi, hs9⟩ := am_bif_some hs; clear hs; have hs := hs9; clear hs9
      rcases tMM _ _ _ eX with ⟨q, -⟩ | ⟨-, w1, w2, w3, w4⟩ | ⟨q, -⟩
      · cases q
      · exact am_t_mmin X (by rw [hcn]; exact w1) w2 w3 w4 (Nat.le_of_ble_eq_true hi) hd (IHg _ _ _ _ _ _ hs)
      · cases q
    · have eX := of_decide_eq_true eX
      obtain ⟨b, s1, e9, hs9⟩ := am_l1_some hs; clear hs; subst e9; have hs := hs9; clear hs9
      obtain ⟨a, s2, e9, hs9⟩ := am_l1_some hs; clear hs; subst e9; have hs := hs9; clear hs9
      obtain ⟨hi, hs9⟩ := am_bif_some hs; clear hs; have hs := hs9; clear hs9
      rcases tMM _ _ _ eX with ⟨q, -⟩ | ⟨q, -⟩ | ⟨-, w1, w2, w3, w4⟩
      · cases q
      · cases q
      · exact am_t_mminl X (by rw [hcn]; exact w1) w2 w3 w4 (Nat.le_of_ble_eq_true hi) hd (IHg _ _ _ _ _ _ hs)
    · next hv1 hv3 hv4 hv5 =>
      split at eX
      · exact absurd rfl hv1
      · exact absurd rfl hv3
      · exact absurd rfl hv4
      · exact absurd rfl hv5
      simp only [Bool.and_eq_true] at eX
      obtain ⟨⟨⟨q1, q2⟩, q3⟩, q4⟩ := eX
      obtain ⟨cdz, mLz, hz⟩ := am_pOK_ok q2
      obtain ⟨z1, -, -, -, -, z6, -, -⟩ := tM _ _ _ _ _ _ hz
      have z6 := z6 (Nat.eq_of_beq_eq_true q3)
      have e4 := Nat.eq_of_beq_eq_true q4
      subst e4
      split at hs
      · next as s1 hsp =>
        obtain ⟨hi, hs9⟩ := am_bif_some hs; clear hs; have hs := hs9; clear hs9
        simp only [Bool.and_eq_true] at hi
        obtain ⟨⟨hi2, hi3⟩, hi4⟩ := hi
        obtain ⟨r1, h1, hcal, hs9⟩ := am_call_some hs; clear hs; have hs := hs9; clear hs9
        exact am_t_callS X hG z1 (by rw [hcn]; exact tML _ _ _ (of_decide_eq_true q1)) z6 hsp (Nat.le_of_ble_eq_true hi2) (Nat.le_of_ble_eq_true hi3) (Nat.le_of_ble_eq_true hi4) (IHc _ _ _ _ _ hcal _ _ _ _ _ hz) hd (IHg _ _ _ _ _ _ hs)
      · cases hs
  case invokespecial k =>
    obtain ⟨rfl, hd⟩ := hns rfl
    dsimp only [am_step] at hs
    dsimp only [am_eX] at eX
    split at hs
    · have eX := of_decide_eq_true eX
      obtain ⟨w1, w2, w3⟩ := tOI _ _ eX
      obtain ⟨q, s1, e9, hs9⟩ := am_r1_some hs; clear hs; subst e9; have hs := hs9; clear hs9
      obtain ⟨hi, hs9⟩ := am_bif_some hs; clear hs; have hs := hs9; clear hs9
      rw [Bool.and_eq_true] at hi
      obtain ⟨j, rfl⟩ : ∃ j, q = j + 1 := ⟨q - 1, by have := Nat.le_of_ble_eq_true hi.2; omega⟩
      exact am_t_objInit X (by rw [hcn]; exact w1) w2 w3 (Nat.le_of_ble_eq_true hi.1) hd (IHg _ _ _ _ _ _ hs)
    · next hv =>
      split at eX
      · next e => exact absurd rfl hv
      simp only [Bool.and_eq_true] at eX
      obtain ⟨⟨⟨⟨q1, q2⟩, q3⟩, q4⟩, q5⟩ := eX
      obtain ⟨cdz, mLz, hz⟩ := am_pOK_ok q2
      obtain ⟨z1, -, -, -, -, -, z7, -⟩ := tM _ _ _ _ _ _ hz
      obtain ⟨z5, z6, z8⟩ := z7 (Nat.eq_of_beq_eq_true q3)
      have e4 := Nat.eq_of_beq_eq_true q4
      subst e4
      split at hs
      · next as s1 hsp =>
        obtain ⟨hi, hs9⟩ := am_bif_some hs; clear hs; have hs := hs9; clear hs9
        simp only [Bool.and_eq_true] at hi
        obtain ⟨⟨⟨hi1, hi2⟩, hi3⟩, hi4⟩ := hi
        obtain ⟨r1, h1, hcal, hs9⟩ := am_call_some hs; clear hs; have hs := hs9; clear hs9
        have hMz := IHc _ _ _ _ _ hcal _ _ _ _ _ hz
        rw [z8] at z1 hMz
        have h5 := Nat.le_of_ble_eq_true q5
        rw [show v.toNat + 2 = (v.toNat - 3) + 5 by omega] at hi1
        rw [Bool.or_eq_true, decide_eq_true_eq, decide_eq_true_eq] at q1
        rcases q1 with q1 | q1
        · exact am_t_callI X hG (host := "") z1 z6 (Or.inl (by rw [hcn]; exact tML _ _ _ q1)) z5 hsp hi1 (Nat.le_of_ble_eq_true hi2) (Nat.le_of_ble_eq_true hi3) (Nat.le_of_ble_eq_true hi4) hMz hd (IHg _ _ _ _ _ _ hs)
        · obtain ⟨host, hh⟩ := tNL _ _ _ q1
          exact am_t_callI X hG (host := host) z1 z6 (Or.inr (by rw [hcn]; exact hh)) z5 hsp hi1 (Nat.le_of_ble_eq_true hi2) (Nat.le_of_ble_eq_true hi3) (Nat.le_of_ble_eq_true hi4) hMz hd (IHg _ _ _ _ _ _ hs)
      · cases hs
  all_goals (dsimp only [am_step] at hs; cases hs)
end AM12
