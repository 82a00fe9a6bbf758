/-! calls and switches -/
def am_Pc (D : va_G) (cl : List vw_C) (ft : Nat → List Nat) (cs : Nat → ClassId) (A : Nat → Prop) (C3 C4 : String) (nw : List (String × Nat × MethodName × String)) (ad0 : List Nat) (as : List am_v) (h : am_h) : Array Value → State → Prop := va_Pc (as.map (am_cv ad0)) (fun U => am_RP D cl ft cs A ad0 h U.heap ∧ am_K D cl cs C3 C4 nw U ∧ ∀ q, U.heap.size ≤ q → A q)
def am_rm (d mc ms : Nat) : Room := { frames := d, cells := mc, slots := ms, locals := d * 50 }
/-- a method's contract, of one call of the small machine -/
def am_Met (l : Launch) (D : va_G) (cl : List vw_C) (ft : Nat → List Nat) (cs : Nat → ClassId) (A : Nat → Prop) (C3 C4 : String) (nw : List (String × Nat × MethodName × String)) (Ts : List Cond) (z : MethodName) (bz : ByteArray) (mLz : Nat) (retz : Option FieldType) (d rt mc ms : Nat) (as : List am_v) (h : am_h) (r : Int) (h' : am_h) : Prop :=
  ∀ ad0 : List Nat, (∀ v ∈ as, am_ok h.1.1 v) → Met l z (.code z bz mLz retz :: Ts) (am_rm d mc ms) (am_Pc D cl ft cs A C3 C4 nw ad0 as h) (am_Qc D cl ft cs A ad0 rt r h') mc ms A
theorem am_Pc_blind {D : va_G} {cl : List vw_C} {ft : Nat → List Nat} {cs : Nat → ClassId} {A : Nat → Prop} {C3 C4 : String} {nw : List (String × Nat × MethodName × String)} {ad0 : List Nat} {as : List am_v} {h : am_h} : FrameBlind (am_Pc D cl ft cs A C3 C4 nw ad0 as h) := fun a _ g mk q => ⟨q.1, q.2.1, q.2.2.1.calling g mk a, q.2.2.2⟩
def am_site (Ts : List Cond) (z : MethodName) (bz : ByteArray) (mLz : Nat) (retz : Option FieldType) (n : Nat) : Prop := Cond.initialized z.cls ∈ Ts ∧ Cond.code z bz mLz retz ∈ Ts ∧ (z.cls ≠ "java/lang/invoke/MethodHandle" ∧ z.cls ≠ "java/lang/invoke/VarHandle" ∧ (parseMethodDescriptor z.desc).map (fun d => d.parameters.length) = some n) ∧ mLz ≤ 31
def am_good (Ts : List Cond) : Prop := ∀ w ∈ Ts, (w.onTables && w.keeps) = true ∨ ∃ ty, w = .arrayClass ty
theorem am_sp_spec : ∀ (n : Nat) (acc st as s0 : List am_v), am_sp n acc st = some (as, s0) → ∃ pre, st = pre ++ s0 ∧ as = pre.reverse ++ acc ∧ pre.length = n
  | 0, acc, st, as, s0, h => by simp [am_sp] at h; exact ⟨[], by simp [h.2], by simp [h.1], rfl⟩
  | n + 1, acc, [], as, s0, h => by simp [am_sp] at h
  | n + 1, acc, v :: st, as, s0, h => by
    obtain ⟨pre, h1, h2, h3⟩ := am_sp_spec n (v :: acc) st as s0 (by simpa [am_sp] using h)
    exact ⟨v :: pre, by simp [h1], by simp [h2], by simp [h3]⟩
section AM10
variable {p : Program} {l : Launch} {e : Env} {R : Room} {s : State} {m : MethodId} {args : Array Value} {below : List Frame} {meth : Method} {c : Code}
variable {D : va_G} {cl : List vw_C} {ft : Nat → List Nat} {cs : Nat → ClassId} {A : Nat → Prop} {C3 C4 : String} {nw : List (String × Nat × MethodName × String)} {Ts : List Cond} {cc : ByteArray} {ret : Option FieldType} {y : MethodName} {d : Nat}
variable {ad0 : List Nat} {mL rt mc ms : Nat} {r : Int} {h' : am_h} {pc : Nat} {ls : am_l} {st : List am_v} {h : am_h} {cb sb : Nat}
/-- behind a call -/
theorem am_t_behind {z : MethodName} {rtz mcz msz : Nat} {r1 : Int} {h1 : am_h} {t : List Nat} {H : Heap} {locs : List Loc} {cls : Array Slot} {cells slots : Nat} {s0 : List am_v} {st0 : List Value} {a0 : Array Value}
    (hr : va_Run p l e R s m args below meth c H locs cells slots mcz msz (F0 m pc cls st0) (s0.map (am_cv (ad0 ++ t))) (am_Qc D cl ft cs A (ad0 ++ t) rtz r1 h1 a0) A)
    (hlen : (ad0 ++ t).length = h.1.1) (hS : va_S A s.heap H locs) (hL : am_LR (ad0 ++ t) h.1.1 cls mL ls) (hO : ∀ v ∈ s0, am_ok h.1.1 v) (c1 : cells + cb = mc) (c2 : slots + sb = ms) (c3 : mcz ≤ cb) (c4 : msz ≤ sb)
    (ih : am_G p l e R s m args below meth c D cl ft cs A ad0 mL rt mc ms r h' (pc + 3) ls (am_push rtz r1 s0) h1 (cb - mcz) (sb - msz)) :
    W p l e R s m args below meth c H locs cells slots (MQ below (am_Qc D cl ft cs A ad0 rt r h') args s mc ms A) (F0 m pc cls st0) := by
  intro T hT X
  obtain ⟨v, st₀, tt, T', L, h0, X', hLf, e1, e2, ⟨⟨t', hv, hRP, hrk⟩, hz, hk⟩, stp⟩ := hr T hT X
  have hv := Outcome.returned.inj hv
  subst hv
  rw [h0] at hz hk
  have hn : h.1.1 ≤ h1.1.1 := by
    have := hRP.1
    rw [List.length_append, hlen] at this
    omega
  have hO1 : ∀ v ∈ am_push rtz r1 s0, am_ok h1.1.1 v := by
    have old : ∀ v ∈ s0, am_ok h1.1.1 v := fun v hv => am_ok_le hn (hO v hv)
    match rtz, hrk with
    | 0, _ => exact old
    | 1, hrk => exact List.forall_mem_cons.mpr ⟨hrk, old⟩
    | 2, hrk => exact List.forall_mem_cons.mpr ⟨hrk, old⟩
    | 3, hrk => exact List.forall_mem_cons.mpr ⟨hrk, old⟩
    | _ + 4, hrk => exact List.forall_mem_cons.mpr ⟨hrk, old⟩
  have est : (am_rvv (ad0 ++ t ++ t') rtz r1).toList ++ s0.map (am_cv (ad0 ++ t)) = (am_push rtz r1 s0).map (am_cv (ad0 ++ (t ++ t'))) := by
    have e0 : s0.map (am_cv (ad0 ++ t)) = s0.map (am_cv (ad0 ++ (t ++ t'))) := by rw [← List.append_assoc, am_st_app hlen s0 hO]
    rw [e0, List.append_assoc]
    match rtz with
    | 0 => rfl
    | 1 => rfl
    | 2 => rfl
    | 3 => rfl
    | _ + 4 => rfl
  have k0 := ih (t ++ t') T'.heap (locs ++ L) cls (cells + mcz) (slots + msz) (by rw [← List.append_assoc, e1]; exact hRP)
    ⟨Nat.le_trans hS.1 (by rw [e1]; exact hz), fun q g1 g2 => by rw [e1, hk q (Nat.lt_of_lt_of_le g1 hS.1) g2]; exact hS.2.1 q g1 g2, fun q hq => by
      rcases List.mem_append.mp hq with g | g
      · exact hS.2.2 q g
      · exact hLf q g⟩
    (by rw [← List.append_assoc]; exact hL.app hlen hn) hO1 (by omega) (by omega)
  rw [← est] at k0
  obtain ⟨t2, a1, b1⟩ := k0 T' rfl X'
  exact ⟨t2, stp t2 a1, b1⟩
theorem am_goodIn (hG : am_good Ts) {ws : List Cond} (hw : ∀ w ∈ ws, w ∈ Ts) : GoodIn Ts ws := fun w h => ⟨hw w h, hG w (hw w h)⟩
theorem am_roomOK {d mcz msz mLz : Nat} (hRf : R.frames = d + 1) (hRl : R.locals = (d + 1) * 50) (h : mLz ≤ 31) : (am_rm d mcz msz).frames + 1 ≤ R.frames ∧ 8 + (mLz + 11) + (am_rm d mcz msz).locals ≤ R.locals := by
  refine ⟨by show d + 1 ≤ _; omega, ?_⟩
  show 8 + (mLz + 11) + d * 50 ≤ R.locals
  rw [hRl]
  omega
theorem am_isR_spec {g : am_g} {x : Nat} {as : List am_v} (h : am_isR g x as = true) : ∃ k As, as = .inr (.inr (k + 1)) :: As ∧ k < g.1 ∧ (g.2.1 k).1 = x := by
  unfold am_isR at h
  split at h
  · rw [Bool.and_eq_true] at h
    exact ⟨_, _, rfl, Nat.le_of_ble_eq_true h.1, Nat.eq_of_beq_eq_true h.2⟩
  · cases h
theorem am_t_callV (X : am_cx p R s m args meth c D cl cs A C3 C4 nw Ts cc mL ret y d mc ms) (hG : am_good Ts) {z : MethodName} {bz : ByteArray} {mLz : Nat} {retz : Option FieldType} {idx n rtz mcz msz ci : Nat} {r1 : Int} {h1 : am_h} {as s0 : List am_v} {T : u_T} {N : Nat}
    (hc : cl[ci]? = some (z.cls, T, N)) (hs : am_site Ts z bz mLz retz n) (w1 : Cond.methodLink y.cls idx z ∈ Ts) (w2 : Cond.instanceMethod z ∈ Ts) (w3 : Cond.selects z.cls z z ∈ Ts) (hsp : am_sp (n + 1) [] st = some (as, s0)) (hi : am_isR h.1 (ci + 5) as = true) (hw : am_wds s0 ≤ 8) (c3 : mcz ≤ cb) (c4 : msz ≤ sb)
    (hM : am_Met l D cl ft cs A C3 C4 nw Ts z bz mLz retz d rtz mcz msz as h r1 h1) (hd : decode cc pc = .ok (.invokevirtual idx, 3))
    (ih : am_G p l e R s m args below meth c D cl ft cs A ad0 mL rt mc ms r h' (pc + 3) ls (am_push rtz r1 s0) h1 (cb - mcz) (sb - msz)) : am_G p l e R s m args below meth c D cl ft cs A ad0 mL rt mc ms r h' pc ls st h cb sb := by
  obtain ⟨hx, hb, hml, hr, hts, hown, hlk, hnm, hK, hA, hRf, hRl, hRc, hRs⟩ := X
  intro t H locs cls cells slots hR hS hL hO c1 c2
  obtain ⟨pre, e1, e2, e3⟩ := am_sp_spec _ _ _ _ _ hsp
  obtain ⟨k, As, e4, hk, hkk⟩ := am_isR_spec hi
  rw [List.append_nil] at e2
  have ev : am_cv (ad0 ++ t) (.inr (.inr (k + 1))) = .ref ((ad0 ++ t).getD k 0) := by show va_rf _ = _; rw [am_rv_at (by rw [hR.1]; omega)]; rfl
  have est : st.map (am_cv (ad0 ++ t)) = (As.map (am_cv (ad0 ++ t))).reverse ++ .ref ((ad0 ++ t).getD k 0) :: s0.map (am_cv (ad0 ++ t)) := by
    have e5 : pre = As.reverse ++ [.inr (.inr (k + 1))] := by
      have := congrArg List.reverse (e2.symm.trans e4)
      simpa using this
    rw [e1, e5, List.map_append, List.map_append, List.map_reverse]
    simp [ev]
  have hOas : ∀ v ∈ as, am_ok h.1.1 v := fun v hv => hO v (by rw [e1]; exact List.mem_append_left _ (by rw [e2] at hv; exact List.mem_reverse.mp hv))
  have hO0 : ∀ v ∈ s0, am_ok h.1.1 v := fun v hv => hO v (by rw [e1]; exact List.mem_append_right _ hv)
  have hAs : (As.map (am_cv (ad0 ++ t))).length = n := by
    rw [List.length_map]
    have := congrArg List.length (e2.symm.trans e4)
    simp at this
    omega
  obtain ⟨s1, s2, s3, s4⟩ := hs
  have hG2 : GoodIn Ts (wsV y.cls idx z.cls z (.code z bz mLz retz :: Ts)) := am_goodIn hG (fun w hw => by
    unfold wsV at hw
    rcases List.mem_append.mp hw with q | q
    · simp only [List.mem_cons, List.mem_nil_iff, or_false] at q
      rcases q with rfl | rfl | rfl | rfl
      · exact w1
      · exact w2
      · exact w3
      · exact s1
    · rcases List.mem_cons.mp q with rfl | q
      · exact s2
      · exact q)
  have cw := cwV (R := R) (rm := am_rm d mcz msz) (mc := mcz) (ms := msz) n hts hG2 rfl rfl rfl ⟨rfl, s3⟩ (am_roomOK hRf hRl s4)
  have hrun := va_runV (rest := s0.map (am_cv (ad0 ++ t))) (g := F0 m pc cls (st.map (am_cv (ad0 ++ t)))) (locs := locs) (cells := cells) (slots := slots) (e := e) (below := below) (meth := meth) ⟨hx, hb, hml, hown, hts⟩ (hM (ad0 ++ t) hOas) cw (H := H) (b := (ad0 ++ t).getD k 0) (As := As.map (am_cv (ad0 ++ t))) ⟨am_Pc_blind, va_recv hK.1 hR.2.1 hc (by have := am_wl_get (ft := ft) (cs := cs) (ad := ad0 ++ t) hk; rw [am_el_obj hkk] at this; exact this), fun U hU hW => ⟨by rw [e4, List.map_cons, ev], by rw [hU]; exact hR, hK.warm hW, fun q hq => by rw [hU] at hq; exact hA q (Nat.le_trans hS.1 hq)⟩⟩ rfl hAs (hL.2.1.1) est (lv_room (by rw [am_wds_cv]; exact hw)) hd ⟨by omega, by omega⟩
  exact am_t_behind (z := z) hrun hR.1 hS hL hO0 c1 c2 c3 c4 ih
theorem am_t_callS (X : am_cx p R s m args meth c D cl cs A C3 C4 nw Ts cc mL ret y d mc ms) (hG : am_good Ts) {z : MethodName} {bz : ByteArray} {mLz : Nat} {retz : Option FieldType} {idx n rtz mcz msz : Nat} {r1 : Int} {h1 : am_h} {as s0 : List am_v}
    (hs : am_site Ts z bz mLz retz n) (w1 : Cond.methodLink y.cls idx z ∈ Ts) (w2 : Cond.static z ∈ Ts) (hsp : am_sp n [] st = some (as, s0)) (hw : am_wds s0 ≤ 8) (c3 : mcz ≤ cb) (c4 : msz ≤ sb)
    (hM : am_Met l D cl ft cs A C3 C4 nw Ts z bz mLz retz d rtz mcz msz as h r1 h1) (hd : decode cc pc = .ok (.invokestatic idx, 3))
    (ih : am_G p l e R s m args below meth c D cl ft cs A ad0 mL rt mc ms r h' (pc + 3) ls (am_push rtz r1 s0) h1 (cb - mcz) (sb - msz)) : am_G p l e R s m args below meth c D cl ft cs A ad0 mL rt mc ms r h' pc ls st h cb sb := by
  obtain ⟨hx, hb, hml, hr, hts, hown, hlk, hnm, hK, hA, hRf, hRl, hRc, hRs⟩ := X
  intro t H locs cls cells slots hR hS hL hO c1 c2
  obtain ⟨pre, e1, e2, e3⟩ := am_sp_spec _ _ _ _ _ hsp
  rw [List.append_nil] at e2
  have est : st.map (am_cv (ad0 ++ t)) = (as.map (am_cv (ad0 ++ t))).reverse ++ s0.map (am_cv (ad0 ++ t)) := by
    rw [e1, e2, List.map_append, List.map_reverse, List.reverse_reverse]
  have hOas : ∀ v ∈ as, am_ok h.1.1 v := fun v hv => hO v (by rw [e1]; exact List.mem_append_left _ (by rw [e2] at hv; exact List.mem_reverse.mp hv))
  have hO0 : ∀ v ∈ s0, am_ok h.1.1 v := fun v hv => hO v (by rw [e1]; exact List.mem_append_right _ hv)
  have hAs : (as.map (am_cv (ad0 ++ t))).length = n := by rw [List.length_map, e2, List.length_reverse]; exact e3
  obtain ⟨s1, s2, s3, s4⟩ := hs
  have hG2 : GoodIn Ts (.code z bz mLz retz :: Ts) := am_goodIn hG (fun w hw => by
    rcases List.mem_cons.mp hw with rfl | q
    · exact s2
    · exact q)
  have cb0 := callB_of (R := R) (rm := am_rm d mcz msz) (mc := mcz) (ms := msz) n hts hG2 rfl rfl rfl (hts _ s1) (hts _ w1) s3 (am_roomOK hRf hRl s4)
  have hrun := va_runS (rest := s0.map (am_cv (ad0 ++ t))) (g := F0 m pc cls (st.map (am_cv (ad0 ++ t)))) (locs := locs) (cells := cells) (slots := slots) (e := e) (below := below) (meth := meth) ⟨hx, hb, hml, hown, hts⟩ (hM (ad0 ++ t) hOas) ⟨cb0, hts _ w2⟩ (H := H) (As := as.map (am_cv (ad0 ++ t))) ⟨am_Pc_blind, fun U hU hW => ⟨rfl, by rw [hU]; exact hR, hK.warm hW, fun q hq => by rw [hU] at hq; exact hA q (Nat.le_trans hS.1 hq)⟩⟩ rfl hAs (hL.2.1.1) est (lv_room (by rw [am_wds_cv]; exact hw)) hd ⟨by omega, by omega⟩
  exact am_t_behind (z := z) hrun hR.1 hS hL hO0 c1 c2 c3 c4 ih
theorem am_t_callI (X : am_cx p R s m args meth c D cl cs A C3 C4 nw Ts cc mL ret y d mc ms) (hG : am_good Ts) {z : MethodName} {bz : ByteArray} {mLz : Nat} {idx n rtz mcz msz ci : Nat} {host : String} {r1 : Int} {h1 : am_h} {as s0 : List am_v}
    (hs : am_site Ts z bz mLz none n) (hz : z.name = "<init>") (w1 : Cond.methodLink y.cls idx z ∈ Ts ∨ (y.cls, idx, z, host) ∈ nw) (w2 : Cond.instanceMethod z ∈ Ts) (hsp : am_sp (n + 1) [] st = some (as, s0)) (hi : am_isR h.1 (ci + 5) as = true) (hw : am_wds s0 ≤ 8) (c3 : mcz ≤ cb) (c4 : msz ≤ sb)
    (hM : am_Met l D cl ft cs A C3 C4 nw Ts z bz mLz none d rtz mcz msz as h r1 h1) (hd : decode cc pc = .ok (.invokespecial idx, 3))
    (ih : am_G p l e R s m args below meth c D cl ft cs A ad0 mL rt mc ms r h' (pc + 3) ls (am_push rtz r1 s0) h1 (cb - mcz) (sb - msz)) : am_G p l e R s m args below meth c D cl ft cs A ad0 mL rt mc ms r h' pc ls st h cb sb := by
  obtain ⟨hx, hb, hml, hr, hts, hown, hlk, hnm, hK, hA, hRf, hRl, hRc, hRs⟩ := X
  intro t H locs cls cells slots hR hS hL hO c1 c2
  obtain ⟨pre, e1, e2, e3⟩ := am_sp_spec _ _ _ _ _ hsp
  obtain ⟨k, As, e4, hk, hkk⟩ := am_isR_spec hi
  rw [List.append_nil] at e2
  have ev : am_cv (ad0 ++ t) (.inr (.inr (k + 1))) = .ref ((ad0 ++ t).getD k 0) := by show va_rf _ = _; rw [am_rv_at (by rw [hR.1]; omega)]; rfl
  have est : st.map (am_cv (ad0 ++ t)) = (As.map (am_cv (ad0 ++ t))).reverse ++ .ref ((ad0 ++ t).getD k 0) :: s0.map (am_cv (ad0 ++ t)) := by
    have e5 : pre = As.reverse ++ [.inr (.inr (k + 1))] := by
      have := congrArg List.reverse (e2.symm.trans e4)
      simpa using this
    rw [e1, e5, List.map_append, List.map_append, List.map_reverse]
    simp [ev]
  have hOas : ∀ v ∈ as, am_ok h.1.1 v := fun v hv => hO v (by rw [e1]; exact List.mem_append_left _ (by rw [e2] at hv; exact List.mem_reverse.mp hv))
  have hO0 : ∀ v ∈ s0, am_ok h.1.1 v := fun v hv => hO v (by rw [e1]; exact List.mem_append_right _ hv)
  have hAs : (As.map (am_cv (ad0 ++ t))).length = n := by
    rw [List.length_map]
    have := congrArg List.length (e2.symm.trans e4)
    simp at this
    omega
  obtain ⟨s1, s2, s3, s4⟩ := hs
  have hG2 : GoodIn Ts (.code z bz mLz none :: Ts) := am_goodIn hG (fun w hw => by
    rcases List.mem_cons.mp hw with rfl | q
    · exact s2
    · exact q)
  have hpre : PreS s H (am_Pc D cl ft cs A C3 C4 nw (ad0 ++ t) as h) (.ref ((ad0 ++ t).getD k 0) :: As.map (am_cv (ad0 ++ t))) := ⟨am_Pc_blind, fun U hU hW => ⟨by rw [e4, List.map_cons, ev], by rw [hU]; exact hR, hK.warm hW, fun q hq => by rw [hU] at hq; exact hA q (Nat.le_trans hS.1 hq)⟩⟩
  rcases w1 with w1 | w1
  · have cb0 := callB_of (R := R) (rm := am_rm d mcz msz) (mc := mcz) (ms := msz) n hts hG2 rfl rfl rfl (hts _ s1) (hts _ w1) s3 (am_roomOK hRf hRl s4)
    have hrun := va_runI (rest := s0.map (am_cv (ad0 ++ t))) (g := F0 m pc cls (st.map (am_cv (ad0 ++ t)))) (locs := locs) (cells := cells) (slots := slots) (e := e) (below := below) (meth := meth) ⟨hx, hb, hml, hown, hts⟩ (hM (ad0 ++ t) hOas) ⟨cb0, hz, hts _ w2⟩ (H := H) (b := (ad0 ++ t).getD k 0) (As := As.map (am_cv (ad0 ++ t))) hpre rfl hAs (hL.2.1.1) est (lv_room (by rw [am_wds_cv]; exact hw)) hd ⟨by omega, by omega⟩
    exact am_t_behind (z := z) hrun hR.1 hS hL hO0 c1 c2 c3 c4 ih
  · have cn0 := va_cnB (R := R) (rm := am_rm d mcz msz) (mc := mcz) (ms := msz) n hts hG2 rfl rfl rfl (hK.2.2.2 _ w1) (hts _ s1) s3 (am_roomOK hRf hRl s4)
    have hrun := va_runIN (rest := s0.map (am_cv (ad0 ++ t))) (g := F0 m pc cls (st.map (am_cv (ad0 ++ t)))) (locs := locs) (cells := cells) (slots := slots) (e := e) (below := below) (meth := meth) ⟨hx, hb, hml, hown, hts⟩ (hM (ad0 ++ t) hOas) ⟨cn0, hz, hts _ w2⟩ (H := H) (b := (ad0 ++ t).getD k 0) (As := As.map (am_cv (ad0 ++ t))) hpre rfl hAs (hL.2.1.1) est (lv_room (by rw [am_wds_cv]; exact hw)) hd ⟨by omega, by omega⟩
    exact am_t_behind (z := z) hrun hR.1 hS hL hO0 c1 c2 c3 c4 ih
/-- where a switch goes -/
def am_to (x : Int) (d : Nat) : List (Int × Nat) → Nat
  | [] => d
  | (a, t) :: l => if x = a then t else am_to x d l
theorem am_sw_to {α : Type} (x : Int) (k : Nat → α) (d : Nat) : ∀ l, am_sw x k d l = k (am_to x d l)
  | [] => rfl
  | (a, t) :: l => by
    unfold am_sw am_to
    by_cases h : x = a
    · rw [if_pos h, if_pos h]
    · rw [if_neg h, if_neg h, am_sw_to x k d l]
def am_tsOK (pc : Nat) : Int → List Int → List (Int × Nat) → Prop
  | _, [], [] => True
  | lo, o :: os, (a, t) :: l => a = lo ∧ (pc : Int) + o = (t : Int) ∧ am_tsOK pc (lo + 1) os l
  | _, _, _ => False
theorem am_ts_in {pc : Nat} {x : Int} (dflt : Nat) : ∀ (os : List Int) (lo : Int) (l : List (Int × Nat)), am_tsOK pc lo os l → lo ≤ x → x < lo + os.length → ∃ o, os[(x - lo).toNat]? = some o ∧ (pc : Int) + o = (am_to x dflt l : Int)
  | [], lo, [], _, h1, h2 => by simp at h2; omega
  | o :: os, lo, (a, t) :: l, h, h1, h2 => by
    obtain ⟨e1, e2, e3⟩ := h
    subst e1
    unfold am_to
    by_cases hx : x = a
    · subst hx
      exact ⟨o, by simp, by rw [if_pos rfl]; exact e2⟩
    · obtain ⟨o', g1, g2⟩ := am_ts_in (x := x) dflt os (a + 1) l e3 (by omega) (by simp at h2; omega)
      refine ⟨o', ?_, by rw [if_neg hx]; exact g2⟩
      rw [show (x - a).toNat = (x - (a + 1)).toNat + 1 by omega]
      simpa using g1
theorem am_ts_out {pc : Nat} {x : Int} (dflt : Nat) : ∀ (os : List Int) (lo : Int) (l : List (Int × Nat)), am_tsOK pc lo os l → (x < lo ∨ lo + os.length ≤ x) → am_to x dflt l = dflt
  | [], lo, [], _, _ => rfl
  | o :: os, lo, (a, t) :: l, h, h1 => by
    obtain ⟨e1, e2, e3⟩ := h
    subst e1
    unfold am_to
    rw [if_neg (by simp at h1; omega)]
    exact am_ts_out dflt os (a + 1) l e3 (by simp at h1; omega)
theorem am_t_tsw (X : am_cx p R s m args meth c D cl cs A C3 C4 nw Ts cc mL ret y d mc ms) {x dflt lo hi : Int} {offs : Array Int} {len x1 : Nat} {ts : List (Int × Nat)} (hd : decode cc pc = .ok (.tableswitch dflt lo hi offs, len)) (h1 : am_tsOK pc lo offs.toList ts) (h2 : hi + 1 = lo + offs.size) (h3 : (pc : Int) + dflt = (x1 : Int))
    (ih : am_G p l e R s m args below meth c D cl ft cs A ad0 mL rt mc ms r h' (am_to x x1 ts) ls st h cb sb) : am_G p l e R s m args below meth c D cl ft cs A ad0 mL rt mc ms r h' pc ls (.inl x :: st) h cb sb := by
  obtain ⟨hx, hb, hml, hr, hts, hown, hlk, hnm, hK, hA, hRf, hRl, hRc, hRs⟩ := X
  intro t H locs cls cells slots hR hS hL hO c1 c2
  obtain ⟨ox, hO⟩ := List.forall_mem_cons.mp hO
  have ex : (Int32.ofInt x).toInt = x := am_to32 ox
  have hl : (offs.toList.length : Int) = offs.size := by simp
  by_cases q : x < lo ∨ hi < x
  · have e1 := am_ts_out (x := x) x1 offs.toList lo ts h1 (by omega)
    rw [e1] at ih
    exact lv_tableOut hx hb hd (by rw [ex]; exact q) h3 (ih t H locs cls cells slots hR hS hL hO c1 c2)
  · obtain ⟨o, g1, g2⟩ := am_ts_in (x := x) x1 offs.toList lo ts h1 (by omega) (by omega)
    exact lv_tableIn hx hb hd (by rw [ex]; omega) (by rw [ex]; omega) (by rw [ex]; simpa using g1) g2 (ih t H locs cls cells slots hR hS hL hO c1 c2)
def am_lsOK (pc : Nat) : List (Int × Int) → List (Int × Nat) → Prop
  | [], [] => True
  | (a, o) :: os, (b, t) :: l => a = b ∧ (pc : Int) + o = (t : Int) ∧ am_lsOK pc os l
  | _, _ => False
theorem am_ls_to {pc : Nat} {x dflt : Int} {x1 : Nat} (h3 : (pc : Int) + dflt = (x1 : Int)) : ∀ (os : List (Int × Int)) (l : List (Int × Nat)), am_lsOK pc os l → (pc : Int) + Op.lookupswitch.offset os dflt x = (am_to x x1 l : Int)
  | [], [], _ => h3
  | (a, o) :: os, (b, t) :: l, h => by
    obtain ⟨e1, e2, e3⟩ := h
    subst e1
    unfold am_to Op.lookupswitch.offset
    have ih := am_ls_to (x := x) h3 os l e3
    by_cases q : x = a
    · subst q
      rw [if_pos rfl, if_pos rfl]; exact e2
    · rw [if_neg (fun z => q z.symm), if_neg q]; exact ih
theorem am_t_lsw (X : am_cx p R s m args meth c D cl cs A C3 C4 nw Ts cc mL ret y d mc ms) {x dflt : Int} {ps : Array (Int × Int)} {len x1 : Nat} {ts : List (Int × Nat)} (hd : decode cc pc = .ok (.lookupswitch dflt ps, len)) (h1 : am_lsOK pc ps.toList ts) (h2 : (ps.toList.zip (ps.toList.drop 1)).all (fun (a, next) => a.1 < next.1) = true) (h3 : (pc : Int) + dflt = (x1 : Int))
    (ih : am_G p l e R s m args below meth c D cl ft cs A ad0 mL rt mc ms r h' (am_to x x1 ts) ls st h cb sb) : am_G p l e R s m args below meth c D cl ft cs A ad0 mL rt mc ms r h' pc ls (.inl x :: st) h cb sb := by
  obtain ⟨hx, hb, hml, hr, hts, hown, hlk, hnm, hK, hA, hRf, hRl, hRc, hRs⟩ := X
  intro t H locs cls cells slots hR hS hL hO c1 c2
  obtain ⟨ox, hO⟩ := List.forall_mem_cons.mp hO
  have ex : (Int32.ofInt x).toInt = x := am_to32 ox
  exact lv_lookup hx hb hd h2 rfl (by rw [ex]; exact am_ls_to h3 ps.toList ts h1) (ih t H locs cls cells slots hR hS hL hO c1 c2)
end AM10
