/-! whatever the small machine answers, the machine does -/
theorem am_at_mem : ∀ (cd : List (Nat × am_e)) (pc : Nat) (E : am_e), am_at cd pc = some E → (pc, E) ∈ cd
  | [], _, _, h => by simp [am_at] at h
  | (q, e) :: l, pc, E, h => by
    unfold am_at at h
    cases b : Nat.beq q pc with
    | true =>
      rw [b] at h
      have e1 := Nat.eq_of_beq_eq_true b
      subst e1
      have h : some e = some E := h
      cases h
      exact List.mem_cons_self
    | false =>
      rw [b] at h
      exact List.mem_cons_of_mem _ (am_at_mem l pc E h)
theorem am_wds_sz : ∀ (as : List am_v), am_wds as = am_sz as
  | [] => rfl
  | v :: l => by
    have := am_wds_sz l
    unfold am_wds at this ⊢
    simp only [List.map_cons, List.sum_cons, am_sz, this]
theorem am_snd {D : va_G} {cl : List vw_C} {ft : Nat → List Nat} {cs : Nat → ClassId} {A : Nat → Prop} {C3 C4 : String} {nw : List (String × Nat × MethodName × String)} {Ts : List Cond} {fin : Nat → Nat → Bool} {e3 e4 : Nat} {oci : Nat → Nat} {t : am_T} (l : Launch) (TK : am_TOK Ts cl ft nw C3 C4 fin e3 e4 oci t) :
    ∀ (d F z : Nat) (as : List am_v) (h : am_h) (r : Int) (h' : am_h), am_call t.P d F z as h = some (r, h') → ∀ cdz mLz rtz mcz msz, t.P z = some (cdz, mLz, rtz, mcz, msz) → am_Met l D cl ft cs A C3 C4 nw Ts (t.nm z) (t.bz z) mLz (t.rT z) d rtz mcz msz as h r h' := by
  intro d
  induction d with
  | zero => intro F z as h r h' hc; cases hc
  | succ d ih =>
    intro F z as h r h' hc cdz mLz rtz mcz msz hz ad0 hO
    unfold am_call at hc
    rw [hz] at hc
    dsimp only at hc
    obtain ⟨hw, hc⟩ := am_bif_some hc
    have hw := Nat.le_of_ble_eq_true hw
    rw [am_wds_sz] at hw
    obtain ⟨hsite, hpl, hcn, hrt, hk0, hk1, hk2, hEs⟩ := TK.2.2.2.2.2.2.2.2.2.2.2.2.2.2.2.2.2 z cdz mLz rtz mcz msz hz
    refine Met.ofW (cc := t.bz z) (maxL := mLz) (ret := t.rT z) hpl rfl ?_
    intro p e s m args below meth c s₁ B hml hv
    obtain ⟨rfl, hRP, hK, hA⟩ := hv
    have hts := atoms_spec (ws := .code (t.nm z) (t.bz z) mLz (t.rT z) :: Ts) B.pre
    have X : am_cx p (headSpec (.code (t.nm z) (t.bz z) mLz (t.rT z) :: Ts) (am_rm (d + 1) mcz msz)).room s m (as.map (am_cv ad0)).toArray meth c D cl cs A C3 C4 nw Ts (t.bz z) mLz (t.rT z) (t.nm z) d mcz msz :=
      ⟨B.exec, B.bytes, hml, B.returns, fun w hw => hts w (List.mem_cons_of_mem _ hw), findClass_of_methodNamed B.named, B.notSynchronized, (name_of_methodNamed B.named B.method).1, hK, hA, rfl, rfl, rfl, rfl⟩
    have main : ∀ (n pc : Nat) (ls : am_l) (st : List am_v) (h : am_h) (cb sb : Nat), am_ex (am_call t.P d F) cdz rtz n pc ls st h cb sb = some (r, h') → am_G p l e (headSpec (.code (t.nm z) (t.bz z) mLz (t.rT z) :: Ts) (am_rm (d + 1) mcz msz)).room s m (as.map (am_cv ad0)).toArray below meth c D cl ft cs A ad0 mLz rtz mcz msz r h' pc ls st h cb sb := by
      intro n
      induction n with
      | zero => intro pc ls st h cb sb q; cases q
      | succ n ihn =>
        intro pc ls st h cb sb q
        cases ha : am_at cdz pc with
        | none =>
          have q : am_step none (fun r h => some (r, h)) (am_ex (am_call t.P d F) cdz rtz n) (fun z as h k => match am_call t.P d F z as h with | some (r, h') => k r h' | none => none) rtz (am_at cdz pc) ls st h cb sb = some (r, h') := q
          rw [ha] at q
          cases q
        | some E =>
          have q : am_step none (fun r h => some (r, h)) (am_ex (am_call t.P d F) cdz rtz n) (fun z as h k => match am_call t.P d F z as h with | some (r, h') => k r h' | none => none) rtz (am_at cdz pc) ls st h cb sb = some (r, h') := q
          rw [ha] at q
          exact am_snd_step TK z hz X ihn (fun z as hh rr hh' hcal cdz mLz rtz mcz msz hPz => ih F z as hh rr hh' hcal cdz mLz rtz mcz msz hPz) (am_at_mem cdz pc E ha) q
    have k0 := main F 0 (am_loc as mLz) [] h mcz msz hc [] s.heap [] _ 0 0 (by rw [List.append_nil]; exact hRP) va_S.rf (by rw [List.append_nil]; exact am_LR.entry hw hO) (fun v hv => by cases hv) (by omega) (by omega)
    rw [lg_entry_eq]
    exact k0
