/-! ends, new cells, calls -/
section AM9
variable {p : Program} {l : Launch} {e : Env} {R : Room} {s : State} {m : MethodId} {args : Array Value} {below : List Frame} {meth : Method} {c : Code}
variable {D : va_G} {cl : List vw_C} {ft : Nat → List Nat} {cs : Nat → ClassId} {A : Nat → Prop} {C3 C4 : String} {nw : List (String × Nat × MethodName × String)} {Ts : List Cond} {cc : ByteArray} {ret : Option FieldType} {y : MethodName} {d : Nat}
variable {ad0 : List Nat} {mL rt mc ms : Nat} {r : Int} {h' : am_h} {pc : Nat} {ls : am_l} {st : List am_v} {h : am_h} {cb sb : Nat}
theorem am_t_ireturn (X : am_cx p R s m args meth c D cl cs A C3 C4 nw Ts cc mL ret y d mc ms) (hret : ret = some .int) (hd : decode cc pc = .ok (.ireturn, 1)) : am_G p l e R s m args below meth c D cl ft cs A ad0 mL 1 mc ms r h pc ls [.inl r] h cb sb := by
  obtain ⟨hx, hb, hml, hr, hts, hown, hlk, hnm, hK, hA, hRf, hRl, hRc, hRs⟩ := X
  intro t H locs cls cells slots hR hS hL hO h1 h2
  refine W.widen (k := mc) (n := ms) (by omega) (by omega) ?_
  exact W.iret hx hb (hr.trans hret) (fun tt ht _ => ⟨⟨t, rfl, by rw [ht]; exact hR, (List.forall_mem_cons.mp hO).1⟩, hS.F ht⟩) hS.2.2 hd hlk
theorem am_t_zreturn (X : am_cx p R s m args meth c D cl cs A C3 C4 nw Ts cc mL ret y d mc ms) (hret : ret = some .boolean) (hz : r = 0 ∨ r = 1) (hd : decode cc pc = .ok (.ireturn, 1)) : am_G p l e R s m args below meth c D cl ft cs A ad0 mL 4 mc ms r h pc ls [.inl r] h cb sb := by
  obtain ⟨hx, hb, hml, hr, hts, hown, hlk, hnm, hK, hA, hRf, hRl, hRc, hRs⟩ := X
  intro t H locs cls cells slots hR hS hL hO h1 h2
  refine W.widen (k := mc) (n := ms) (by omega) (by omega) ?_
  exact W.zret hx hb (hr.trans hret) (by rcases hz with rfl | rfl <;> decide) (fun tt ht _ => ⟨⟨t, rfl, by rw [ht]; exact hR, (List.forall_mem_cons.mp hO).1⟩, hS.F ht⟩) hS.2.2 hd hlk
theorem am_t_lreturn (X : am_cx p R s m args meth c D cl cs A C3 C4 nw Ts cc mL ret y d mc ms) (hret : ret = some .long) (hd : decode cc pc = .ok (.lreturn, 1)) : am_G p l e R s m args below meth c D cl ft cs A ad0 mL 2 mc ms r h pc ls [.inr (.inl r)] h cb sb := by
  obtain ⟨hx, hb, hml, hr, hts, hown, hlk, hnm, hK, hA, hRf, hRl, hRc, hRs⟩ := X
  intro t H locs cls cells slots hR hS hL hO h1 h2
  refine W.widen (k := mc) (n := ms) (by omega) (by omega) ?_
  exact W.lret hx hb (hr.trans hret) (fun tt ht _ => ⟨⟨t, rfl, by rw [ht]; exact hR, (List.forall_mem_cons.mp hO).1⟩, hS.F ht⟩) hS.2.2 hd hlk
theorem am_t_areturn (X : am_cx p R s m args meth c D cl cs A C3 C4 nw Ts cc mL ret y d mc ms) {C : String} {k : Nat} (hret : ret = some (.object C)) (hd : decode cc pc = .ok (.areturn, 1)) : am_G p l e R s m args below meth c D cl ft cs A ad0 mL 3 mc ms ((k + 1 : Nat) : Int) h pc ls [.inr (.inr (k + 1))] h cb sb := by
  obtain ⟨hx, hb, hml, hr, hts, hown, hlk, hnm, hK, hA, hRf, hRl, hRc, hRs⟩ := X
  intro t H locs cls cells slots hR hS hL hO h1 h2
  have o1 : k + 1 ≤ h.1.1 := (List.forall_mem_cons.mp hO).1
  have ev : am_cv (ad0 ++ t) (.inr (.inr (k + 1))) = .ref ((ad0 ++ t).getD k 0) := by show va_rf _ = _; rw [am_rv_at (by rw [hR.1]; omega)]; rfl
  refine W.widen (k := mc) (n := ms) (by omega) (by omega) ?_
  exact W.aret hx hb (hr.trans hret) (Or.inl ⟨C, rfl⟩) (Or.inr ⟨_, ev⟩) (fun tt ht _ => ⟨⟨t, by rw [show am_rvv (ad0 ++ t) 3 ((k + 1 : Nat) : Int) = some (va_rf (am_rv (ad0 ++ t) (((k + 1 : Nat) : Int).toNat))) from rfl, Int.toNat_natCast]; rfl, by rw [ht]; exact hR, by show ((k + 1 : Nat) : Int).toNat ≤ h.1.1; rw [Int.toNat_natCast]; exact o1⟩, hS.F ht⟩) hS.2.2 hd hlk
theorem am_t_return (X : am_cx p R s m args meth c D cl cs A C3 C4 nw Ts cc mL ret y d mc ms) (hret : ret = none) (hd : decode cc pc = .ok (.return_, 1)) : am_G p l e R s m args below meth c D cl ft cs A ad0 mL 0 mc ms r h pc ls [] h cb sb := by
  obtain ⟨hx, hb, hml, hr, hts, hown, hlk, hnm, hK, hA, hRf, hRl, hRc, hRs⟩ := X
  intro t H locs cls cells slots hR hS hL hO h1 h2
  refine W.widen (k := mc) (n := ms) (by omega) (by omega) ?_
  exact W.vret hx hb (hr.trans hret) (fun tt ht _ => ⟨⟨t, rfl, by rw [ht]; exact hR, trivial⟩, hS.F ht⟩) hS.2.2 hd hlk
theorem am_zero_tok (n t : Nat) : am_tok n t 0 0 := match t with
  | 0 => am_0
  | 1 => by show am_i64 0; unfold am_i64; omega
  | 2 => Nat.zero_le _
  | 3 => Or.inl rfl
  | _ + 4 => by show -128 ≤ (0 : Int) ∧ (0 : Int) < 128; omega
theorem am_tok_le {n n' t : Nat} (hn : n ≤ n') {x : Int} {q : Nat} (h : am_tok n t x q) : am_tok n' t x q := match t, h with
  | 0, h => h
  | 1, h => h
  | 2, h => Nat.le_trans h hn
  | 3, h => h
  | _ + 4, h => h
theorem am_cM_new {ft : Nat → List Nat} {h : am_h} (hc : am_cM ft h) (z : Nat × Nat) : am_cM ft (am_new h z) := by
  intro k hk j hj
  have hk : k < h.1.1 + 1 := hk
  show am_tok (h.1.1 + 1) (am_ty ft (am_us h.1.2.1 h.1.1 z k) j) (am_us h.2 h.1.1 (fun _ => 0) k j) (am_us h.1.2.2 h.1.1 (fun _ => 0) k j)
  by_cases e : k = h.1.1
  · have b : Nat.beq k h.1.1 = true := by rw [e]; exact am_beq_t _
    unfold am_us
    rw [b]
    exact am_zero_tok _ _
  · unfold am_us
    rw [am_beq_f e]
    exact am_tok_le (by omega) (hc k (by omega) j hj)
/-- what follows a new cell -/
theorem am_RP_new {H1 : Heap} {q : Nat} {t : List Nat} {z : Nat × Nat} (hlen : (ad0 ++ t).length = h.1.1) (hM : am_cM ft h) (hP1 : va_P D cl (am_wl ft cs (ad0 ++ t) h ++ [(q, am_el ft cs (ad0 ++ t) z (fun _ => 0) (fun _ => 0))]) H1) (hD1 : va_D A (am_wl ft cs (ad0 ++ t) h ++ [(q, am_el ft cs (ad0 ++ t) z (fun _ => 0) (fun _ => 0))])) : am_RP D cl ft cs A (ad0 ++ (t ++ [q])) (am_new h z) H1 := by
  rw [← List.append_assoc]
  refine ⟨by rw [List.length_append, hlen]; rfl, ?_, ?_, am_cM_new hM z⟩
  · rw [am_wl_new hlen hM]; exact hP1
  · rw [am_wl_new hlen hM]; exact hD1
theorem am_new_cv {t : List Nat} {q n : Nat} (hlen : (ad0 ++ t).length = n) : am_cv (ad0 ++ (t ++ [q])) (.inr (.inr (n + 1))) = .ref q := by
  show va_rf (ad0 ++ (t ++ [q]))[n]? = _
  rw [← List.append_assoc, List.getElem?_append_right (by omega), hlen, Nat.sub_self]; rfl
theorem am_t_new (X : am_cx p R s m args meth c D cl cs A C3 C4 nw Ts cc mL ret y d mc ms) (hC : am_clOK Ts cl ft) {ci idx : Nat} {C : String} {T : u_T} {N : Nat} (hc : cl[ci]? = some (C, T, N)) (w1 : Cond.classLink y.cls idx C ∈ Ts) (w2 : Cond.instantiable C N ∈ Ts) (w3 : Cond.initialized C ∈ Ts) (hcb : 1 ≤ cb) (hsb : N ≤ sb) (hd : decode cc pc = .ok (.new idx, 3))
    (ih : am_G p l e R s m args below meth c D cl ft cs A ad0 mL rt mc ms r h' (pc + 3) ls (.inr (.inr (h.1.1 + 1)) :: st) (am_new h (ci + 5, 0)) (cb - 1) (sb - N)) : am_G p l e R s m args below meth c D cl ft cs A ad0 mL rt mc ms r h' pc ls st h cb sb := by
  obtain ⟨hx, hb, hml, hr, hts, hown, hlk, hnm, hK, hA, hRf, hRl, hRc, hRs⟩ := X
  intro t H locs cls cells slots hR hS hL hO h1 h2
  obtain ⟨hlen, hP, hD, hM⟩ := hR
  obtain ⟨hin, ty0, hty, hnmq, hln, htk⟩ := hC ci C T N hc
  refine va_new hx hb hts hin ty0 hty hown (hts _ w1) (hts _ w2) (hts _ w3) hK.1 hP hD hS hA hc (fs := am_fs (ad0 ++ t) (fun _ => 0) (fun _ => 0) (ft ci) 0) (fun j hj => ?_) (by omega) (by omega) hd (fun q H1 hP1 hD1 hS1 => ?_)
  · obtain ⟨u, hu⟩ : ∃ u, (ft ci)[j]? = some u := ⟨_, List.getElem?_eq_getElem (by rw [hln]; exact hj)⟩
    unfold vp_V
    rw [List.getD_eq_getElem?_getD, am_fs_get (ad0 ++ t) (fun _ => 0) (fun _ => 0) (ft ci) 0 j u hu]
    have tk := htk j u hu
    match u, tk with
    | 0, tk => rw [show ty0 j = .int from tk]; rfl
    | 1, tk => rw [show ty0 j = .long from tk]; rfl
    | 2, tk => rcases tk with ⟨C', e⟩ | ⟨u', e⟩ <;> rw [e] <;> rfl
    | 3, tk => rw [show ty0 j = .boolean from tk]; rfl
  · have k0 := ih (t ++ [q]) H1 locs cls (cells + 1) (slots + N) (am_RP_new hlen hM hP1 hD1) hS1 (by rw [← List.append_assoc]; exact hL.app hlen (Nat.le_succ _)) (List.forall_mem_cons.mpr ⟨Nat.le_refl _, fun v hv => am_ok_le (Nat.le_succ _) (hO v hv)⟩) (by omega) (by omega)
    rw [List.map_cons, am_new_cv hlen, ← List.append_assoc, am_st_app hlen st hO] at k0
    exact k0
theorem am_t_newarr (X : am_cx p R s m args meth c D cl cs A C3 C4 nw Ts cc mL ret y d mc ms) {x1 : Nat} {atype : ArrayType} {n : Int} (hk : (x1 = 0 ∧ atype = .int) ∨ (x1 = 1 ∧ atype = .long) ∨ (x1 = 2 ∧ atype = .byte)) (w1 : Cond.arrayClass (newarray.typeOf atype) ∈ Ts) (n0 : 0 ≤ n) (n1 : n ≤ 65536) (hcb : 1 ≤ cb) (hsb : n.toNat ≤ sb) (hd : decode cc pc = .ok (.newarray atype, 2))
    (ih : am_G p l e R s m args below meth c D cl ft cs A ad0 mL rt mc ms r h' (pc + 2) ls (.inr (.inr (h.1.1 + 1)) :: st) (am_new h (x1, n.toNat)) (cb - 1) (sb - n.toNat)) : am_G p l e R s m args below meth c D cl ft cs A ad0 mL rt mc ms r h' pc ls (.inl n :: st) h cb sb := by
  obtain ⟨hx, hb, hml, hr, hts, hown, hlk, hnm, hK, hA, hRf, hRl, hRc, hRs⟩ := X
  intro t H locs cls cells slots hR hS hL hO h1 h2
  obtain ⟨hlen, hP, hD, hM⟩ := hR
  obtain ⟨on, hO⟩ := List.forall_mem_cons.mp hO
  have on : am_i32 n := on
  have nn : ¬ Int32.ofInt n < 0 := fun z => by rw [show (0 : Int32) = Int32.ofInt 0 from rfl, am_lt32 on am_0] at z; omega
  have go : ∀ (q : Nat) (H1 : Heap), va_P D cl (am_wl ft cs (ad0 ++ t) h ++ [(q, am_el ft cs (ad0 ++ t) (x1, n.toNat) (fun _ => 0) (fun _ => 0))]) H1 → va_D A (am_wl ft cs (ad0 ++ t) h ++ [(q, am_el ft cs (ad0 ++ t) (x1, n.toNat) (fun _ => 0) (fun _ => 0))]) → va_S A s.heap H1 locs → W p l e R s m args below meth c H1 locs (cells + 1) (slots + n.toNat) (MQ below (am_Qc D cl ft cs A ad0 rt r h') args s mc ms A) (F0 m (pc + 2) cls (.ref q :: st.map (am_cv (ad0 ++ t)))) := by
    intro q H1 hP1 hD1 hS1
    have k0 := ih (t ++ [q]) H1 locs cls (cells + 1) (slots + n.toNat) (am_RP_new hlen hM hP1 hD1) hS1 (by rw [← List.append_assoc]; exact hL.app hlen (Nat.le_succ _)) (List.forall_mem_cons.mpr ⟨Nat.le_refl _, fun v hv => am_ok_le (Nat.le_succ _) (hO v hv)⟩) (by omega) (by omega)
    rw [List.map_cons, am_new_cv hlen, ← List.append_assoc, am_st_app hlen st hO] at k0
    exact k0
  rcases hk with ⟨rfl, rfl⟩ | ⟨rfl, rfl⟩ | ⟨rfl, rfl⟩
  · refine va_newa (atype := .int) hx hb (hts _ w1) rfl hK.1 hP hD hS hA (a0 := (n.toNat, .inl fun _ => Int32.ofInt 0)) (fun _ => rfl) nn (am_nat32 on) (by show n.toNat * 4 ≤ _; omega) (by omega) (by omega) hd (fun q cA H1 hK1 hP1 hD1 hS1 => ?_)
    have e1 : s.vm.findClass ("[" ++ FieldType.int.toString) = some cA := (hK1.2 5 (cA, .int) rfl).2
    have e2 : s.vm.findClass ("[" ++ FieldType.int.toString) = some (cs 0) := (hK.1.2 0 (cs 0, .int) rfl).2
    have e3 : cA = cs 0 := Option.some.inj (e1.symm.trans e2)
    subst e3
    exact go q H1 hP1 hD1 hS1
  · refine va_newa (atype := .long) hx hb (hts _ w1) rfl hK.1 hP hD hS hA (a0 := (n.toNat, .inr (.inl fun _ => Int64.ofInt 0))) (fun _ => rfl) nn (am_nat32 on) (by show n.toNat * 8 ≤ _; omega) (by omega) (by omega) hd (fun q cA H1 hK1 hP1 hD1 hS1 => ?_)
    have e1 : s.vm.findClass ("[" ++ FieldType.long.toString) = some cA := (hK1.2 5 (cA, .long) rfl).2
    have e2 : s.vm.findClass ("[" ++ FieldType.long.toString) = some (cs 1) := (hK.1.2 1 (cs 1, .long) rfl).2
    have e3 : cA = cs 1 := Option.some.inj (e1.symm.trans e2)
    subst e3
    exact go q H1 hP1 hD1 hS1
  · refine va_newa (atype := .byte) hx hb (hts _ w1) rfl hK.1 hP hD hS hA (a0 := (n.toNat, .inl fun _ => Int32.ofInt 0)) (fun _ => rfl) nn (am_nat32 on) (by show n.toNat * 1 ≤ _; omega) (by omega) (by omega) hd (fun q cA H1 hK1 hP1 hD1 hS1 => ?_)
    have e1 : s.vm.findClass ("[" ++ FieldType.byte.toString) = some cA := (hK1.2 5 (cA, .byte) rfl).2
    have e2 : s.vm.findClass ("[" ++ FieldType.byte.toString) = some (cs 2) := (hK.1.2 2 (cs 2, .byte) rfl).2
    have e3 : cA = cs 2 := Option.some.inj (e1.symm.trans e2)
    subst e3
    exact go q H1 hP1 hD1 hS1
theorem am_t_anew (X : am_cx p R s m args meth c D cl cs A C3 C4 nw Ts cc mL ret y d mc ms) {x1 idx : Nat} {n : Int} {C : String} (hk : (x1 = 3 ∧ C = C3) ∨ (x1 = 4 ∧ C = C4)) (w1 : Cond.classLink y.cls idx C ∈ Ts) (n0 : 0 ≤ n) (n1 : n ≤ 65536) (hcb : 1 ≤ cb) (hsb : n.toNat ≤ sb) (hd : decode cc pc = .ok (.anewarray idx, 3))
    (ih : am_G p l e R s m args below meth c D cl ft cs A ad0 mL rt mc ms r h' (pc + 3) ls (.inr (.inr (h.1.1 + 1)) :: st) (am_new h (x1, n.toNat)) (cb - 1) (sb - n.toNat)) : am_G p l e R s m args below meth c D cl ft cs A ad0 mL rt mc ms r h' pc ls (.inl n :: st) h cb sb := by
  obtain ⟨hx, hb, hml, hr, hts, hown, hlk, hnm, hK, hA, hRf, hRl, hRc, hRs⟩ := X
  intro t H locs cls cells slots hR hS hL hO h1 h2
  obtain ⟨hlen, hP, hD, hM⟩ := hR
  obtain ⟨on, hO⟩ := List.forall_mem_cons.mp hO
  have on : am_i32 n := on
  have nn : ¬ Int32.ofInt n < 0 := fun z => by rw [show (0 : Int32) = Int32.ofInt 0 from rfl, am_lt32 on am_0] at z; omega
  have go : ∀ (q : Nat) (H1 : Heap), va_P D cl (am_wl ft cs (ad0 ++ t) h ++ [(q, am_el ft cs (ad0 ++ t) (x1, n.toNat) (fun _ => 0) (fun _ => 0))]) H1 → va_D A (am_wl ft cs (ad0 ++ t) h ++ [(q, am_el ft cs (ad0 ++ t) (x1, n.toNat) (fun _ => 0) (fun _ => 0))]) → va_S A s.heap H1 locs → W p l e R s m args below meth c H1 locs (cells + 1) (slots + n.toNat) (MQ below (am_Qc D cl ft cs A ad0 rt r h') args s mc ms A) (F0 m (pc + 3) cls (.ref q :: st.map (am_cv (ad0 ++ t)))) := by
    intro q H1 hP1 hD1 hS1
    have k0 := ih (t ++ [q]) H1 locs cls (cells + 1) (slots + n.toNat) (am_RP_new hlen hM hP1 hD1) hS1 (by rw [← List.append_assoc]; exact hL.app hlen (Nat.le_succ _)) (List.forall_mem_cons.mpr ⟨Nat.le_refl _, fun v hv => am_ok_le (Nat.le_succ _) (hO v hv)⟩) (by omega) (by omega)
    rw [List.map_cons, am_new_cv hlen, ← List.append_assoc, am_st_app hlen st hO] at k0
    exact k0
  rcases hk with ⟨rfl, rfl⟩ | ⟨rfl, rfl⟩
  · refine va_newq hx hb hown (hts _ w1) hK.2.1 hK.1 hP hD hS hA nn (am_nat32 on) (by omega) (by omega) (by omega) hd (fun q cA H1 hK1 hP1 hD1 hS1 => ?_)
    obtain ⟨_, _, -, -, -, e1⟩ := (hK1.2 5 (cA, .object C) rfl).2
    obtain ⟨_, _, -, -, -, e2⟩ := (hK.1.2 3 (cs 3, .object C) rfl).2
    have e3 : cA = cs 3 := Option.some.inj (e1.symm.trans e2)
    subst e3
    exact go q H1 hP1 hD1 hS1
  · refine va_newq hx hb hown (hts _ w1) hK.2.2.1 hK.1 hP hD hS hA nn (am_nat32 on) (by omega) (by omega) (by omega) hd (fun q cA H1 hK1 hP1 hD1 hS1 => ?_)
    obtain ⟨_, _, -, -, -, e1⟩ := (hK1.2 5 (cA, .object C) rfl).2
    obtain ⟨_, _, -, -, -, e2⟩ := (hK.1.2 4 (cs 4, .object C) rfl).2
    have e3 : cA = cs 4 := Option.some.inj (e1.symm.trans e2)
    subst e3
    exact go q H1 hP1 hD1 hS1
theorem am_t_objInit (X : am_cx p R s m args meth c D cl cs A C3 C4 nw Ts cc mL ret y d mc ms) {idx k : Nat} (w1 : Cond.methodLink y.cls idx Lib.objectInit ∈ Ts) (w2 : Cond.instanceMethod Lib.objectInit ∈ Ts) (w3 : Cond.code Lib.objectInit ⟨#[0xb1]⟩ 1 none ∈ Ts) (hw : am_wds st ≤ 8) (hd : decode cc pc = .ok (.invokespecial idx, 3))
    (ih : am_G p l e R s m args below meth c D cl ft cs A ad0 mL rt mc ms r h' (pc + 3) ls st h cb sb) : am_G p l e R s m args below meth c D cl ft cs A ad0 mL rt mc ms r h' pc ls (.inr (.inr (k + 1)) :: st) h cb sb := by
  obtain ⟨hx, hb, hml, hr, hts, hown, hlk, hnm, hK, hA, hRf, hRl, hRc, hRs⟩ := X
  intro t H locs cls cells slots hR hS hL hO h1 h2
  obtain ⟨oa, hO⟩ := List.forall_mem_cons.mp hO
  have oa : k + 1 ≤ h.1.1 := oa
  have ev : am_cv (ad0 ++ t) (.inr (.inr (k + 1))) = .ref ((ad0 ++ t).getD k 0) := by show va_rf _ = _; rw [am_rv_at (by rw [hR.1]; omega)]; rfl
  have ew : ((st.map (am_cv (ad0 ++ t))).map fun v => v.category).sum = am_wds st := by
    unfold am_wds
    rw [List.map_map]
    congr 1
    apply List.map_congr_left
    intro v _
    exact am_cat_cv (ad0 ++ t) v
  rw [List.map_cons, ev]
  refine W.objInit hx hb hown (hts _ w1) (hts _ w2) (hts _ w3) rfl (hL.2.1.1.trans hml.symm) rfl hd (by omega) ?_ (ih t H locs cls cells slots hR hS hL hO h1 h2)
  show 2 * (F0 m pc cls _).monitorRoom + _ + 12 ≤ R.locals
  rw [ew]
  show 2 * 0 + _ + 12 ≤ R.locals
  omega
theorem am_wds_cv (ad : List Nat) (st : List am_v) : ((st.map (am_cv ad)).map fun v => v.category).sum = am_wds st := by
  unfold am_wds
  rw [List.map_map]
  congr 1
  apply List.map_congr_left
  intro v _
  exact am_cat_cv ad v
theorem am_t_aastore (X : am_cx p R s m args meth c D cl cs A C3 C4 nw Ts cc mL ret y d mc ms) {i : Int} {q q2 x1 ci : Nat} {r2 : vw_C} (hc : cl[ci]? = some r2) (hk : (x1 = 3 ∧ r2.1 = C3) ∨ (x1 = 4 ∧ r2.1 = C4)) (hq : q < h.1.1) (hs : (h.1.2.1 q).1 = x1) (hq2 : q2 < h.1.1) (hs2 : (h.1.2.1 q2).1 = ci + 5) (i0 : 0 ≤ i) (i1 : i < ((h.1.2.1 q).2 : Int)) (hd : decode cc pc = .ok (.aastore, 1))
    (ih : am_G p l e R s m args below meth c D cl ft cs A ad0 mL rt mc ms r h' (pc + 1) ls st ((h.1.1, h.1.2.1, am_up h.1.2.2 q i (q2 + 1)), h.2) cb sb) : am_G p l e R s m args below meth c D cl ft cs A ad0 mL rt mc ms r h' pc ls (.inr (.inr (q2 + 1)) :: .inl i :: .inr (.inr (q + 1)) :: st) h cb sb := by
  obtain ⟨hx, hb, hml, hr, hts, hown, hlk, hnm, hK, hA, hRf, hRl, hRc, hRs⟩ := X
  intro t H locs cls cells slots hR hS hL hO h1 h2
  obtain ⟨hlen, hP, hD, hM⟩ := hR
  have ev : am_cv (ad0 ++ t) (.inr (.inr (q + 1))) = .ref ((ad0 ++ t).getD q 0) := by show va_rf _ = _; rw [am_rv_at (by rw [hlen]; omega)]; rfl
  have ev2 : am_cv (ad0 ++ t) (.inr (.inr (q2 + 1))) = .ref ((ad0 ++ t).getD q2 0) := by show va_rf _ = _; rw [am_rv_at (by rw [hlen]; omega)]; rfl
  obtain ⟨ov, hO⟩ := List.forall_mem_cons.mp hO
  obtain ⟨oi, hO⟩ := List.forall_mem_cons.mp hO
  obtain ⟨oa, hO⟩ := List.forall_mem_cons.mp hO
  have he := am_wl_get (ft := ft) (cs := cs) (ad := ad0 ++ t) hq
  have he2 := am_wl_get (ft := ft) (cs := cs) (ad := ad0 ++ t) hq2
  rw [am_el_obj hs2] at he2
  obtain ⟨n, hsh⟩ : ∃ n, h.1.2.1 q = (x1, n) := ⟨(h.1.2.1 q).2, by rw [← hs]⟩
  have cm := am_cM_upr (q := q) (i := i) (v := q2 + 1) hM (by rw [hsh]; rcases hk with ⟨rfl, -⟩ | ⟨rfl, -⟩ <;> exact hq2)
  have ew := fun (el : va_E) (he : am_el ft cs (ad0 ++ t) (h.1.2.1 q) (h.2 q) (am_up h.1.2.2 q i (q2 + 1) q) = el) => am_wl_set (ft := ft) (cs := cs) (ad := ad0 ++ t) (h := h) (h' := ((h.1.1, h.1.2.1, am_up h.1.2.2 q i (q2 + 1)), h.2)) (k := q) rfl he (fun j hj => ⟨rfl, rfl, am_up_ne _ _ _ hj⟩) hq
  rw [hsh] at i1 he ew
  have ei : (Int32.ofInt i).toNatClampNeg = i.toNat := am_nat32 oi
  have e2 : am_rv (ad0 ++ t) (q2 + 1) = some ((ad0 ++ t).getD q2 0) := am_rv_at (by rw [hlen]; omega)
  rw [List.map_cons, List.map_cons, List.map_cons, ev, ev2]
  have ef : (fun j : Nat => am_rv (ad0 ++ t) (if (j : Int) = i then q2 + 1 else h.1.2.2 q (j : Int))) = va_up (fun j : Nat => am_rv (ad0 ++ t) (h.1.2.2 q (j : Int))) i.toNat (some ((ad0 ++ t).getD q2 0)) := by
    funext j
    show _ = (if j = i.toNat then _ else _)
    by_cases e : (j : Int) = i
    · rw [if_pos e, if_pos (by omega), e2]
    · rw [if_neg e, if_neg (by omega)]
  rcases hk with ⟨rfl, hk⟩ | ⟨rfl, hk⟩
  · refine va_astq hx hb hK.1 hP hD hS q 3 q2 ci he (by rw [hk]; rfl) he2 hc (am_in oi i0 i1) hd (fun H1 locs1 hP1 hD1 hS1 => ?_)
    rw [ew _ (by
      rw [am_up_self, ei]
      show Sum.inl (cs 3, n, Sum.inr (Sum.inr (Sum.inr (Sum.inr fun j : Nat => am_rv (ad0 ++ t) (if (j : Int) = i then q2 + 1 else h.1.2.2 q (j : Int)))))) = _
      rw [ef])] at hP1 hD1
    exact ih t H1 locs1 cls cells slots ⟨hlen, hP1, hD1, cm⟩ hS1 hL hO h1 h2
  · refine va_astq hx hb hK.1 hP hD hS q 4 q2 ci he (by rw [hk]; rfl) he2 hc (am_in oi i0 i1) hd (fun H1 locs1 hP1 hD1 hS1 => ?_)
    rw [ew _ (by
      rw [am_up_self, ei]
      show Sum.inl (cs 4, n, Sum.inr (Sum.inr (Sum.inr (Sum.inr fun j : Nat => am_rv (ad0 ++ t) (if (j : Int) = i then q2 + 1 else h.1.2.2 q (j : Int)))))) = _
      rw [ef])] at hP1 hD1
    exact ih t H1 locs1 cls cells slots ⟨hlen, hP1, hD1, cm⟩ hS1 hL hO h1 h2
theorem am_t_copy (X : am_cx p R s m args meth c D cl cs A C3 C4 nw Ts cc mL ret y d mc ms) {idx ka kd : Nat} {n dp sp : Int} (w1 : Cond.methodLink y.cls idx arraycopyName ∈ Ts) (w2 : Cond.native arraycopyName ∈ Ts) (w3 : Cond.static arraycopyName ∈ Ts) (w4 : Cond.initialized "java/lang/System" ∈ Ts)
    (hka : ka < h.1.1) (hkd : kd < h.1.1) (sa : (h.1.2.1 ka).1 = 0) (sd : (h.1.2.1 kd).1 = 0) (n0 : 0 ≤ n) (s0 : 0 ≤ sp) (d0 : 0 ≤ dp) (b1 : sp + n ≤ ((h.1.2.1 ka).2 : Int)) (b2 : dp + n ≤ ((h.1.2.1 kd).2 : Int)) (hw : am_wds st ≤ 8) (hnf : nativeFrameWords "java/lang/System" "arraycopy" 5 ≤ 31) (hd : decode cc pc = .ok (.invokestatic idx, 3))
    (ih : am_G p l e R s m args below meth c D cl ft cs A ad0 mL rt mc ms r h' (pc + 3) ls st (h.1, am_cpy h.2 ka kd sp dp n) cb sb) : am_G p l e R s m args below meth c D cl ft cs A ad0 mL rt mc ms r h' pc ls (.inl n :: .inl dp :: .inr (.inr (kd + 1)) :: .inl sp :: .inr (.inr (ka + 1)) :: st) h cb sb := by
  obtain ⟨hx, hb, hml, hr, hts, hown, hlk, hnm, hK, hA, hRf, hRl, hRc, hRs⟩ := X
  intro t H locs cls cells slots hR hS hL hO h1 h2
  obtain ⟨hlen, hP, hD, hM⟩ := hR
  have ev : am_cv (ad0 ++ t) (.inr (.inr (ka + 1))) = .ref ((ad0 ++ t).getD ka 0) := by show va_rf _ = _; rw [am_rv_at (by rw [hlen]; omega)]; rfl
  have ev2 : am_cv (ad0 ++ t) (.inr (.inr (kd + 1))) = .ref ((ad0 ++ t).getD kd 0) := by show va_rf _ = _; rw [am_rv_at (by rw [hlen]; omega)]; rfl
  obtain ⟨on, hO⟩ := List.forall_mem_cons.mp hO
  obtain ⟨odp, hO⟩ := List.forall_mem_cons.mp hO
  obtain ⟨-, hO⟩ := List.forall_mem_cons.mp hO
  obtain ⟨osp, hO⟩ := List.forall_mem_cons.mp hO
  obtain ⟨-, hO⟩ := List.forall_mem_cons.mp hO
  have nneg : ∀ {z : Int}, am_i32 z → 0 ≤ z → ¬ Int32.ofInt z < 0 := fun oz hz q => by rw [show (0 : Int32) = Int32.ofInt 0 from rfl, am_lt32 oz am_0] at q; omega
  have he := am_wl_get (ft := ft) (cs := cs) (ad := ad0 ++ t) hka
  have he2 := am_wl_get (ft := ft) (cs := cs) (ad := ad0 ++ t) hkd
  obtain ⟨na, ea⟩ : ∃ n, h.1.2.1 ka = (0, n) := ⟨(h.1.2.1 ka).2, by rw [← sa]⟩
  obtain ⟨nd, ed⟩ : ∃ n, h.1.2.1 kd = (0, n) := ⟨(h.1.2.1 kd).2, by rw [← sd]⟩
  have cself : am_cpy h.2 ka kd sp dp n kd = fun j => if dp ≤ j ∧ j < dp + n then h.2 ka (sp + (j - dp)) else h.2 kd j := by show (bif Nat.beq kd kd then _ else _) = _; rw [am_beq_t]; rfl
  have cne : ∀ j, j ≠ kd → am_cpy h.2 ka kd sp dp n j = h.2 j := fun j hj => by show (bif Nat.beq j kd then _ else _) = _; rw [am_beq_f hj]; rfl
  have cm : am_cM ft (h.1, am_cpy h.2 ka kd sp dp n) := by
    intro k hk j hj
    show am_tok h.1.1 (am_ty ft (h.1.2.1 k) j) (am_cpy h.2 ka kd sp dp n k j) (h.1.2.2 k j)
    by_cases e : k = kd
    · subst e
      rw [cself, ed]
      show am_i32 (if _ then _ else _)
      by_cases q : dp ≤ j ∧ j < dp + n
      · rw [if_pos q]
        have := hM ka hka (sp + (j - dp)) (by omega)
        rw [ea] at this
        exact this
      · rw [if_neg q]
        have := hM k hk j hj
        rw [ed] at this
        exact this
    · rw [cne k e]; exact hM k hk j hj
  have ew := fun (el : va_E) (he : am_el ft cs (ad0 ++ t) (h.1.2.1 kd) (am_cpy h.2 ka kd sp dp n kd) (h.1.2.2 kd) = el) => am_wl_set (ft := ft) (cs := cs) (ad := ad0 ++ t) (h := h) (h' := (h.1, am_cpy h.2 ka kd sp dp n)) (k := kd) rfl he (fun j hj => ⟨rfl, cne j hj, rfl⟩) hkd
  rw [ea] at b1 he
  rw [ed] at b2 he2 ew
  have b1 : sp + n ≤ (na : Int) := b1
  have b2 : dp + n ≤ (nd : Int) := b2
  rw [List.map_cons, List.map_cons, List.map_cons, List.map_cons, List.map_cons, ev, ev2]
  refine va_copyi hx hb (hml.trans hL.2.1.1.symm) hown (hts _ w1) (hts _ w2) (hts _ w3) (hts _ w4) hK.1 hP hD hS ka kd 0 0 he he2 rfl rfl rfl (nneg osp s0) (nneg odp d0) (nneg on n0) (by rw [am_nat32 osp, am_nat32 on]; omega) (by rw [am_nat32 odp, am_nat32 on]; omega) (fun i _ => rfl) (by omega) (by rw [am_wds_cv]; omega) hd (fun H1 locs1 hP1 hD1 hS1 => ?_)
  rw [ew _ (by
    rw [cself, am_nat32 osp, am_nat32 odp, am_nat32 on]
    show Sum.inl (cs 0, nd, Sum.inl fun j : Nat => Int32.ofInt (if dp ≤ (j : Int) ∧ (j : Int) < dp + n then h.2 ka (sp + ((j : Int) - dp)) else h.2 kd (j : Int))) = _
    congr 4
    funext j
    show _ = (if dp.toNat ≤ j ∧ j < dp.toNat + n.toNat then _ else _)
    by_cases e : dp ≤ (j : Int) ∧ (j : Int) < dp + n
    · rw [if_pos e, if_pos (by omega)]
      show _ = Int32.ofInt (h.2 ka ((sp.toNat + (j - dp.toNat) : Nat) : Int))
      rw [show ((sp.toNat + (j - dp.toNat) : Nat) : Int) = sp + ((j : Int) - dp) by omega]
    · rw [if_neg e, if_neg (by omega)])] at hP1 hD1
  exact ih t H1 locs1 cls cells slots ⟨hlen, hP1, hD1, cm⟩ hS1 hL hO h1 h2
theorem am_t_mmax (X : am_cx p R s m args meth c D cl cs A C3 C4 nw Ts cc mL ret y d mc ms) {idx : Nat} {a b : Int} (w1 : Cond.methodLink y.cls idx Lib.Math.max.name ∈ Ts) (w2 : Cond.static Lib.Math.max.name ∈ Ts) (w3 : Cond.initialized "java/lang/Math" ∈ Ts) (w4 : Cond.code Lib.Math.max.name Lib.Math.max.code 2 (some .int) ∈ Ts) (hw : am_wds st ≤ 8) (hd : decode cc pc = .ok (.invokestatic idx, 3))
    (ih : am_G p l e R s m args below meth c D cl ft cs A ad0 mL rt mc ms r h' (pc + 3) ls (.inl (i_max a b) :: st) h cb sb) : am_G p l e R s m args below meth c D cl ft cs A ad0 mL rt mc ms r h' pc ls (.inl b :: .inl a :: st) h cb sb := by
  obtain ⟨hx, hb, hml, hr, hts, hown, hlk, hnm, hK, hA, hRf, hRl, hRc, hRs⟩ := X
  intro t H locs cls cells slots hR hS hL hO h1 h2
  obtain ⟨ob, hO⟩ := List.forall_mem_cons.mp hO
  obtain ⟨oa, hO⟩ := List.forall_mem_cons.mp hO
  have k0 := ih t H locs cls cells slots hR hS hL (List.forall_mem_cons.mpr ⟨(by show am_i32 (if a < b then b else a); split <;> assumption), hO⟩) h1 h2
  have e2 : am_cv (ad0 ++ t) (.inl (i_max a b)) = .int (if Int32.ofInt a < Int32.ofInt b then Int32.ofInt b else Int32.ofInt a) := by
    show Value.int (Int32.ofInt (if a < b then b else a)) = _
    by_cases q : a < b
    · rw [if_pos q, if_pos ((am_lt32 oa ob).mpr q)]
    · rw [if_neg q, if_neg (fun z => q ((am_lt32 oa ob).mp z))]
  rw [List.map_cons, e2] at k0
  exact va_mmax hx hb (hml.trans hL.2.1.1.symm) hown (hts _ w1) (hts _ w2) (hts _ w3) (hts _ w4) (by omega) (by rw [am_wds_cv]; omega) (by omega) (by omega) hd k0
theorem am_t_mmin (X : am_cx p R s m args meth c D cl cs A C3 C4 nw Ts cc mL ret y d mc ms) {idx : Nat} {a b : Int} (w1 : Cond.methodLink y.cls idx Lib.Math.min.name ∈ Ts) (w2 : Cond.static Lib.Math.min.name ∈ Ts) (w3 : Cond.initialized "java/lang/Math" ∈ Ts) (w4 : Cond.code Lib.Math.min.name Lib.Math.min.code 2 (some .int) ∈ Ts) (hw : am_wds st ≤ 8) (hd : decode cc pc = .ok (.invokestatic idx, 3))
    (ih : am_G p l e R s m args below meth c D cl ft cs A ad0 mL rt mc ms r h' (pc + 3) ls (.inl (i_min a b) :: st) h cb sb) : am_G p l e R s m args below meth c D cl ft cs A ad0 mL rt mc ms r h' pc ls (.inl b :: .inl a :: st) h cb sb := by
  obtain ⟨hx, hb, hml, hr, hts, hown, hlk, hnm, hK, hA, hRf, hRl, hRc, hRs⟩ := X
  intro t H locs cls cells slots hR hS hL hO h1 h2
  obtain ⟨ob, hO⟩ := List.forall_mem_cons.mp hO
  obtain ⟨oa, hO⟩ := List.forall_mem_cons.mp hO
  have k0 := ih t H locs cls cells slots hR hS hL (List.forall_mem_cons.mpr ⟨(by show am_i32 (if b < a then b else a); split <;> assumption), hO⟩) h1 h2
  have e2 : am_cv (ad0 ++ t) (.inl (i_min a b)) = .int (if Int32.ofInt b < Int32.ofInt a then Int32.ofInt b else Int32.ofInt a) := by
    show Value.int (Int32.ofInt (if b < a then b else a)) = _
    by_cases q : b < a
    · rw [if_pos q, if_pos ((am_lt32 ob oa).mpr q)]
    · rw [if_neg q, if_neg (fun z => q ((am_lt32 ob oa).mp z))]
  rw [List.map_cons, e2] at k0
  exact va_mmin hx hb (hml.trans hL.2.1.1.symm) hown (hts _ w1) (hts _ w2) (hts _ w3) (hts _ w4) (by omega) (by rw [am_wds_cv]; omega) (by omega) (by omega) hd k0
theorem am_t_mminl (X : am_cx p R s m args meth c D cl cs A C3 C4 nw Ts cc mL ret y d mc ms) {idx : Nat} {a b : Int} (w1 : Cond.methodLink y.cls idx Lib.MathLoose.min_long.x ∈ Ts) (w2 : Cond.static Lib.MathLoose.min_long.x ∈ Ts) (w3 : Cond.initialized "java/lang/Math" ∈ Ts) (w4 : Cond.code Lib.MathLoose.min_long.x Lib.MathLoose.min_long.code 4 (some .long) ∈ Ts) (hw : am_wds st ≤ 8) (hd : decode cc pc = .ok (.invokestatic idx, 3))
    (ih : am_G p l e R s m args below meth c D cl ft cs A ad0 mL rt mc ms r h' (pc + 3) ls (.inr (.inl (i_min a b)) :: st) h cb sb) : am_G p l e R s m args below meth c D cl ft cs A ad0 mL rt mc ms r h' pc ls (.inr (.inl b) :: .inr (.inl a) :: st) h cb sb := by
  obtain ⟨hx, hb, hml, hr, hts, hown, hlk, hnm, hK, hA, hRf, hRl, hRc, hRs⟩ := X
  intro t H locs cls cells slots hR hS hL hO h1 h2
  obtain ⟨ob, hO⟩ := List.forall_mem_cons.mp hO
  obtain ⟨oa, hO⟩ := List.forall_mem_cons.mp hO
  have k0 := ih t H locs cls cells slots hR hS hL (List.forall_mem_cons.mpr ⟨(by show am_i64 (if b < a then b else a); split <;> assumption), hO⟩) h1 h2
  have e2 : am_cv (ad0 ++ t) (.inr (.inl (i_min a b))) = .long (if Int64.ofInt b < Int64.ofInt a then Int64.ofInt b else Int64.ofInt a) := by
    show Value.long (Int64.ofInt (if b < a then b else a)) = _
    by_cases q : b < a
    · rw [if_pos q, if_pos ((am_lt64 ob oa).mpr q)]
    · rw [if_neg q, if_neg (fun z => q ((am_lt64 ob oa).mp z))]
  rw [List.map_cons, e2] at k0
  exact va_mmin_long hx hb (hml.trans hL.2.1.1.symm) hown (hts _ w1) (hts _ w2) (hts _ w3) (hts _ w4) (by omega) (by rw [am_wds_cv]; omega) (by omega) (by omega) hd k0
end AM9
