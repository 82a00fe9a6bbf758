def am_tyOK (t : Nat) (ty : FieldType) : Prop := match t with
  | 0 => ty = .int
  | 1 => ty = .long
  | 2 => (∃ C, ty = .object C) ∨ ∃ u, ty = .array u
  | 3 => ty = .boolean
  | _ => False
def am_clOK (Ts : List Cond) (cl : List vw_C) (ft : Nat → List Nat) : Prop := ∀ (ci : Nat) (C : String) (T : u_T) (N : Nat), cl[ci]? = some (C, T, N) → (∀ w ∈ u_ws C T N, w ∈ Ts) ∧ ∃ ty0 : Nat → FieldType, (∀ k, k < N → parseFieldDescriptor (T k).2.2.1 = some (ty0 k)) ∧ (∀ a, a < N → ∀ b, b < N → a ≠ b → (T a).2.1 ≠ (T b).2.1) ∧ (ft ci).length = N ∧ ∀ k t, (ft ci)[k]? = some t → am_tyOK t (ty0 k)
def am_pv (t : Nat) (x : Int) (r : Nat) : am_v := match t with
  | 1 => .inr (.inl x)
  | 2 => .inr (.inr r)
  | _ => .inl x
theorem am_pv_cv (ad : List Nat) (t : Nat) (x : Int) (r : Nat) : am_cv ad (am_pv t x r) = am_fv ad t x r := match t with
  | 0 => rfl
  | 1 => rfl
  | 2 => rfl
  | _ + 3 => rfl
theorem am_pv_ok {n t : Nat} {x : Int} {r : Nat} (h : am_tok n t x r) : am_ok n (am_pv t x r) := match t, h with
  | 0, h => h
  | 1, h => h
  | 2, h => h
  | 3, h => by
    have h : x = 0 ∨ x = 1 := h
    show am_i32 x
    unfold am_i32; omega
  | _ + 4, h => by
    have h : -128 ≤ x ∧ x < 128 := h
    show am_i32 x
    unfold am_i32; omega
theorem am_el_obj {ft : Nat → List Nat} {cs : Nat → ClassId} {ad : List Nat} {s : Nat × Nat} {f : Int → Int} {rf : Int → Nat} {ci : Nat} (hs : s.1 = ci + 5) : am_el ft cs ad s f rf = .inr (ci, am_fs ad f rf (ft ci) 0) := by
  obtain ⟨a, b⟩ := s
  have hs : a = ci + 5 := hs
  subst hs
  rfl
theorem am_ty_obj {ft : Nat → List Nat} {s : Nat × Nat} {ci k t : Nat} (hs : s.1 = ci + 5) (ht : (ft ci)[k]? = some t) : am_ty ft s (k : Int) = t := by
  obtain ⟨a, b⟩ := s
  have hs : a = ci + 5 := hs
  subst hs
  show (ft ci).getD ((k : Int)).toNat 2 = t
  rw [Int.toNat_natCast, List.getD_eq_getElem?_getD, ht]; rfl
theorem am_cM_up {ft : Nat → List Nat} {h : am_h} (hc : am_cM ft h) {q : Nat} {i : Int} {v : Int} (hv : am_tok h.1.1 (am_ty ft (h.1.2.1 q) i) v (h.1.2.2 q i)) : am_cM ft (h.1, am_up h.2 q i v) := by
  intro k hk j hj
  show am_tok h.1.1 (am_ty ft (h.1.2.1 k) j) (am_up h.2 q i v k j) (h.1.2.2 k j)
  by_cases e : k = q
  · subst e
    have e1 : am_up h.2 k i v k = fun j => if j = i then v else h.2 k j := by show (bif Nat.beq k k then _ else _) = _; rw [am_beq_t]; rfl
    rw [e1]
    by_cases e2 : j = i
    · subst e2
      show am_tok _ _ (if j = j then v else _) _
      rw [if_pos rfl]; exact hv
    · show am_tok _ _ (if j = i then v else _) _
      rw [if_neg e2]; exact hc k hk j hj
  · have e1 : am_up h.2 q i v k = h.2 k := by show (bif Nat.beq k q then _ else _) = _; rw [am_beq_f e]; rfl
    rw [e1]; exact hc k hk j hj
theorem am_cM_upr {ft : Nat → List Nat} {h : am_h} (hc : am_cM ft h) {q : Nat} {i : Int} {v : Nat} (hv : am_tok h.1.1 (am_ty ft (h.1.2.1 q) i) (h.2 q i) v) : am_cM ft ((h.1.1, h.1.2.1, am_up h.1.2.2 q i v), h.2) := by
  intro k hk j hj
  show am_tok h.1.1 (am_ty ft (h.1.2.1 k) j) (h.2 k j) (am_up h.1.2.2 q i v k j)
  by_cases e : k = q
  · subst e
    have e1 : am_up h.1.2.2 k i v k = fun j => if j = i then v else h.1.2.2 k j := by show (bif Nat.beq k k then _ else _) = _; rw [am_beq_t]; rfl
    rw [e1]
    by_cases e2 : j = i
    · subst e2
      show am_tok _ _ _ (if j = j then v else _)
      rw [if_pos rfl]; exact hv
    · show am_tok _ _ _ (if j = i then v else _)
      rw [if_neg e2]; exact hc k hk j hj
  · have e1 : am_up h.1.2.2 q i v k = h.1.2.2 k := by show (bif Nat.beq k q then _ else _) = _; rw [am_beq_f e]; rfl
    rw [e1]; exact hc k hk j hj
theorem am_up_self {β : Type} (M : Nat → Int → β) (k : Nat) (i : Int) (v : β) : am_up M k i v k = fun j => if j = i then v else M k j := by show (bif Nat.beq k k then _ else _) = _; rw [am_beq_t]; rfl
theorem am_up_ne {β : Type} (M : Nat → Int → β) {k a : Nat} (i : Int) (v : β) (h : a ≠ k) : am_up M k i v a = M a := by show (bif Nat.beq a k then _ else _) = _; rw [am_beq_f h]; rfl
section AM8
variable {p : Program} {l : Launch} {e : Env} {R : Room} {s : State} {m : MethodId} {args : Array Value} {below : List Frame} {meth : Method} {c : Code}
variable {D : va_G} {cl : List vw_C} {ft : Nat → List Nat} {cs : Nat → ClassId} {A : Nat → Prop} {C3 C4 : String} {nw : List (String × Nat × MethodName × String)} {Ts : List Cond} {cc : ByteArray} {ret : Option FieldType} {y : MethodName} {d : Nat}
variable {ad0 : List Nat} {mL rt mc ms : Nat} {r : Int} {h' : am_h} {pc : Nat} {ls : am_l} {st : List am_v} {h : am_h} {cb sb : Nat}
theorem am_t_get (X : am_cx p R s m args meth c D cl cs A C3 C4 nw Ts cc mL ret y d mc ms) (hC : am_clOK Ts cl ft) {ci k idx t0 : Nat} {C : String} {T : u_T} {N : Nat} (hc : cl[ci]? = some (C, T, N)) (hl : Cond.fieldLink y.cls idx (T k).1 (T k).2.1 (T k).2.2.1 ∈ Ts) (ht : (ft ci)[k]? = some t0) {q : Nat} (hq : q < h.1.1) (hs : (h.1.2.1 q).1 = ci + 5) (hd : decode cc pc = .ok (.getfield idx, 3)) (ih : am_G p l e R s m args below meth c D cl ft cs A ad0 mL rt mc ms r h' (pc + 3) ls (am_pv t0 (h.2 q (k : Int)) (h.1.2.2 q (k : Int)) :: st) h cb sb) : am_G p l e R s m args below meth c D cl ft cs A ad0 mL rt mc ms r h' pc ls (.inr (.inr (q + 1)) :: st) h cb sb := by
  obtain ⟨hx, hb, hml, hr, hts, hown, hlk, hnm, hK, hA, hRf, hRl, hRc, hRs⟩ := X
  intro t H locs cls cells slots hR hS hL hO h1 h2
  obtain ⟨hlen, hP, hD, hM⟩ := hR
  have ev : am_cv (ad0 ++ t) (.inr (.inr (q + 1))) = .ref ((ad0 ++ t).getD q 0) := by show va_rf _ = _; rw [am_rv_at (by rw [hlen]; omega)]; rfl
  obtain ⟨oa, hO⟩ := List.forall_mem_cons.mp hO
  obtain ⟨hin, ty0, hty, hnmq, hln, htk⟩ := hC ci C T N hc
  have hk : k < N := by rw [← hln]; exact (List.getElem?_eq_some_iff.mp ht).1
  have he := am_wl_get (ft := ft) (cs := cs) (ad := ad0 ++ t) hq
  rw [am_el_obj hs] at he
  have hv := am_fs_get (ad0 ++ t) (h.2 q) (h.1.2.2 q) (ft ci) 0 k t0 ht
  rw [Nat.zero_add] at hv
  have tk := hM q hq (k : Int) (by omega)
  rw [am_ty_obj hs ht] at tk
  have k0 := ih t H locs cls cells slots ⟨hlen, hP, hD, hM⟩ hS hL (List.forall_mem_cons.mpr ⟨am_pv_ok tk, hO⟩) h1 h2
  rw [List.map_cons, am_pv_cv] at k0
  rw [List.map_cons, ev]
  exact va_get hx hb hts hin hown hK.1 hP q he hc k hk (hts _ hl) (fun _ z => z) hv hd k0
theorem am_t_putI (X : am_cx p R s m args meth c D cl cs A C3 C4 nw Ts cc mL ret y d mc ms) (hC : am_clOK Ts cl ft) {ci k idx : Nat} {C : String} {T : u_T} {N : Nat} (hc : cl[ci]? = some (C, T, N)) (hl : Cond.fieldLink y.cls idx (T k).1 (T k).2.1 (T k).2.2.1 ∈ Ts) (ht : (ft ci)[k]? = some 0) (hf : (T k).2.2.2 = false) {q : Nat} {v : Int} (hq : q < h.1.1) (hs : (h.1.2.1 q).1 = ci + 5) (hd : decode cc pc = .ok (.putfield idx, 3)) (ih : am_G p l e R s m args below meth c D cl ft cs A ad0 mL rt mc ms r h' (pc + 3) ls st (h.1, am_up h.2 q (k : Int) v) cb sb) : am_G p l e R s m args below meth c D cl ft cs A ad0 mL rt mc ms r h' pc ls (.inl v :: .inr (.inr (q + 1)) :: st) h cb sb := by
  obtain ⟨hx, hb, hml, hr, hts, hown, hlk, hnm, hK, hA, hRf, hRl, hRc, hRs⟩ := X
  intro t H locs cls cells slots hR hS hL hO h1 h2
  obtain ⟨hlen, hP, hD, hM⟩ := hR
  have ev : am_cv (ad0 ++ t) (.inr (.inr (q + 1))) = .ref ((ad0 ++ t).getD q 0) := by show va_rf _ = _; rw [am_rv_at (by rw [hlen]; omega)]; rfl
  obtain ⟨ov, hO⟩ := List.forall_mem_cons.mp hO
  obtain ⟨oa, hO⟩ := List.forall_mem_cons.mp hO
  obtain ⟨hin, ty0, hty, hnmq, hln, htk⟩ := hC ci C T N hc
  have hk : k < N := by rw [← hln]; exact (List.getElem?_eq_some_iff.mp ht).1
  have tyk : ty0 k = .int := htk k 0 ht
  have hty2 : narrow (ty0 k) (.int (Int32.ofInt v)) = .int (Int32.ofInt v) ∧ fits (ty0 k) (.int (Int32.ofInt v)) = true := by rw [tyk]; exact ⟨rfl, rfl⟩
  have he := am_wl_get (ft := ft) (cs := cs) (ad := ad0 ++ t) hq
  rw [am_el_obj hs] at he
  rw [List.map_cons, List.map_cons, ev]
  refine va_put hx hb hts hin ty0 hty hnmq hown hK.1 hP hD hS q he hc k hk (hts _ hl) (fun _ z => z) hf (hty k hk) hty2.1 hty2.2 (by rw [am_fs_len, hln]; exact hk) hd (fun H1 locs1 hP1 hD1 hS1 => ?_)
  have ew := am_wl_set (ft := ft) (cs := cs) (ad := ad0 ++ t) (h := h) (h' := (h.1, am_up h.2 q (k : Int) v)) (k := q) (e := .inr (ci, (am_fs (ad0 ++ t) (h.2 q) (h.1.2.2 q) (ft ci) 0).set k (am_cv (ad0 ++ t) (.inl v)))) rfl (by show am_el ft cs (ad0 ++ t) (h.1.2.1 q) (am_up h.2 q (k : Int) v q) (h.1.2.2 q) = _; rw [am_up_self, am_el_obj hs, (am_fs_set (ad0 ++ t) (h.2 q) (fun j => if j = (k : Int) then v else h.2 q j) (h.1.2.2 q) (h.1.2.2 q) (ft ci) k 0 ht _ (by show am_fv _ 0 (if (k : Int) = (k : Int) then v else _) _ = _; rw [if_pos rfl]; rfl) (fun j hj => ⟨if_neg (by omega), rfl⟩))]) (fun j hj => ⟨rfl, am_up_ne _ _ _ hj, rfl⟩) hq
  rw [ew] at hP1 hD1
  exact ih t H1 locs1 cls cells slots ⟨hlen, hP1, hD1, (am_cM_up hM (by rw [am_ty_obj hs ht]; exact ov))⟩ hS1 hL hO h1 h2
theorem am_t_putIF (X : am_cx p R s m args meth c D cl cs A C3 C4 nw Ts cc mL ret y d mc ms) (hC : am_clOK Ts cl ft) {ci k idx : Nat} {C : String} {T : u_T} {N : Nat} (hc : cl[ci]? = some (C, T, N)) (hl : Cond.fieldLink y.cls idx (T k).1 (T k).2.1 (T k).2.2.1 ∈ Ts) (ht : (ft ci)[k]? = some 0) (hf : (T k).2.2.2 = true) (hi : y.name = "<init>") (ho : (T k).1 = y.cls) {q : Nat} {v : Int} (hq : q < h.1.1) (hs : (h.1.2.1 q).1 = ci + 5) (hd : decode cc pc = .ok (.putfield idx, 3)) (ih : am_G p l e R s m args below meth c D cl ft cs A ad0 mL rt mc ms r h' (pc + 3) ls st (h.1, am_up h.2 q (k : Int) v) cb sb) : am_G p l e R s m args below meth c D cl ft cs A ad0 mL rt mc ms r h' pc ls (.inl v :: .inr (.inr (q + 1)) :: st) h cb sb := by
  obtain ⟨hx, hb, hml, hr, hts, hown, hlk, hnm, hK, hA, hRf, hRl, hRc, hRs⟩ := X
  intro t H locs cls cells slots hR hS hL hO h1 h2
  obtain ⟨hlen, hP, hD, hM⟩ := hR
  have ev : am_cv (ad0 ++ t) (.inr (.inr (q + 1))) = .ref ((ad0 ++ t).getD q 0) := by show va_rf _ = _; rw [am_rv_at (by rw [hlen]; omega)]; rfl
  obtain ⟨ov, hO⟩ := List.forall_mem_cons.mp hO
  obtain ⟨oa, hO⟩ := List.forall_mem_cons.mp hO
  obtain ⟨hin, ty0, hty, hnmq, hln, htk⟩ := hC ci C T N hc
  have hk : k < N := by rw [← hln]; exact (List.getElem?_eq_some_iff.mp ht).1
  have tyk : ty0 k = .int := htk k 0 ht
  have hty2 : narrow (ty0 k) (.int (Int32.ofInt v)) = .int (Int32.ofInt v) ∧ fits (ty0 k) (.int (Int32.ofInt v)) = true := by rw [tyk]; exact ⟨rfl, rfl⟩
  have he := am_wl_get (ft := ft) (cs := cs) (ad := ad0 ++ t) hq
  rw [am_el_obj hs] at he
  rw [List.map_cons, List.map_cons, ev]
  refine va_putF hx hb hts hin ty0 hty hnmq hown hK.1 hP hD hS q he hc k hk (hts _ hl) (fun _ z => z) hf (by rw [hnm]; exact hi) ho (hty k hk) hty2.1 hty2.2 (by rw [am_fs_len, hln]; exact hk) hd (fun H1 locs1 hP1 hD1 hS1 => ?_)
  have ew := am_wl_set (ft := ft) (cs := cs) (ad := ad0 ++ t) (h := h) (h' := (h.1, am_up h.2 q (k : Int) v)) (k := q) (e := .inr (ci, (am_fs (ad0 ++ t) (h.2 q) (h.1.2.2 q) (ft ci) 0).set k (am_cv (ad0 ++ t) (.inl v)))) rfl (by show am_el ft cs (ad0 ++ t) (h.1.2.1 q) (am_up h.2 q (k : Int) v q) (h.1.2.2 q) = _; rw [am_up_self, am_el_obj hs, (am_fs_set (ad0 ++ t) (h.2 q) (fun j => if j = (k : Int) then v else h.2 q j) (h.1.2.2 q) (h.1.2.2 q) (ft ci) k 0 ht _ (by show am_fv _ 0 (if (k : Int) = (k : Int) then v else _) _ = _; rw [if_pos rfl]; rfl) (fun j hj => ⟨if_neg (by omega), rfl⟩))]) (fun j hj => ⟨rfl, am_up_ne _ _ _ hj, rfl⟩) hq
  rw [ew] at hP1 hD1
  exact ih t H1 locs1 cls cells slots ⟨hlen, hP1, hD1, (am_cM_up hM (by rw [am_ty_obj hs ht]; exact ov))⟩ hS1 hL hO h1 h2
theorem am_t_putL (X : am_cx p R s m args meth c D cl cs A C3 C4 nw Ts cc mL ret y d mc ms) (hC : am_clOK Ts cl ft) {ci k idx : Nat} {C : String} {T : u_T} {N : Nat} (hc : cl[ci]? = some (C, T, N)) (hl : Cond.fieldLink y.cls idx (T k).1 (T k).2.1 (T k).2.2.1 ∈ Ts) (ht : (ft ci)[k]? = some 1) (hf : (T k).2.2.2 = false) {q : Nat} {v : Int} (hq : q < h.1.1) (hs : (h.1.2.1 q).1 = ci + 5) (hd : decode cc pc = .ok (.putfield idx, 3)) (ih : am_G p l e R s m args below meth c D cl ft cs A ad0 mL rt mc ms r h' (pc + 3) ls st (h.1, am_up h.2 q (k : Int) v) cb sb) : am_G p l e R s m args below meth c D cl ft cs A ad0 mL rt mc ms r h' pc ls (.inr (.inl v) :: .inr (.inr (q + 1)) :: st) h cb sb := by
  obtain ⟨hx, hb, hml, hr, hts, hown, hlk, hnm, hK, hA, hRf, hRl, hRc, hRs⟩ := X
  intro t H locs cls cells slots hR hS hL hO h1 h2
  obtain ⟨hlen, hP, hD, hM⟩ := hR
  have ev : am_cv (ad0 ++ t) (.inr (.inr (q + 1))) = .ref ((ad0 ++ t).getD q 0) := by show va_rf _ = _; rw [am_rv_at (by rw [hlen]; omega)]; rfl
  obtain ⟨ov, hO⟩ := List.forall_mem_cons.mp hO
  obtain ⟨oa, hO⟩ := List.forall_mem_cons.mp hO
  obtain ⟨hin, ty0, hty, hnmq, hln, htk⟩ := hC ci C T N hc
  have hk : k < N := by rw [← hln]; exact (List.getElem?_eq_some_iff.mp ht).1
  have tyk : ty0 k = .long := htk k 1 ht
  have hty2 : narrow (ty0 k) (.long (Int64.ofInt v)) = .long (Int64.ofInt v) ∧ fits (ty0 k) (.long (Int64.ofInt v)) = true := by rw [tyk]; exact ⟨rfl, rfl⟩
  have he := am_wl_get (ft := ft) (cs := cs) (ad := ad0 ++ t) hq
  rw [am_el_obj hs] at he
  rw [List.map_cons, List.map_cons, ev]
  refine va_put hx hb hts hin ty0 hty hnmq hown hK.1 hP hD hS q he hc k hk (hts _ hl) (fun _ z => z) hf (hty k hk) hty2.1 hty2.2 (by rw [am_fs_len, hln]; exact hk) hd (fun H1 locs1 hP1 hD1 hS1 => ?_)
  have ew := am_wl_set (ft := ft) (cs := cs) (ad := ad0 ++ t) (h := h) (h' := (h.1, am_up h.2 q (k : Int) v)) (k := q) (e := .inr (ci, (am_fs (ad0 ++ t) (h.2 q) (h.1.2.2 q) (ft ci) 0).set k (am_cv (ad0 ++ t) (.inr (.inl v))))) rfl (by show am_el ft cs (ad0 ++ t) (h.1.2.1 q) (am_up h.2 q (k : Int) v q) (h.1.2.2 q) = _; rw [am_up_self, am_el_obj hs, (am_fs_set (ad0 ++ t) (h.2 q) (fun j => if j = (k : Int) then v else h.2 q j) (h.1.2.2 q) (h.1.2.2 q) (ft ci) k 1 ht _ (by show am_fv _ 1 (if (k : Int) = (k : Int) then v else _) _ = _; rw [if_pos rfl]; rfl) (fun j hj => ⟨if_neg (by omega), rfl⟩))]) (fun j hj => ⟨rfl, am_up_ne _ _ _ hj, rfl⟩) hq
  rw [ew] at hP1 hD1
  exact ih t H1 locs1 cls cells slots ⟨hlen, hP1, hD1, (am_cM_up hM (by rw [am_ty_obj hs ht]; exact ov))⟩ hS1 hL hO h1 h2
theorem am_t_putLF (X : am_cx p R s m args meth c D cl cs A C3 C4 nw Ts cc mL ret y d mc ms) (hC : am_clOK Ts cl ft) {ci k idx : Nat} {C : String} {T : u_T} {N : Nat} (hc : cl[ci]? = some (C, T, N)) (hl : Cond.fieldLink y.cls idx (T k).1 (T k).2.1 (T k).2.2.1 ∈ Ts) (ht : (ft ci)[k]? = some 1) (hf : (T k).2.2.2 = true) (hi : y.name = "<init>") (ho : (T k).1 = y.cls) {q : Nat} {v : Int} (hq : q < h.1.1) (hs : (h.1.2.1 q).1 = ci + 5) (hd : decode cc pc = .ok (.putfield idx, 3)) (ih : am_G p l e R s m args below meth c D cl ft cs A ad0 mL rt mc ms r h' (pc + 3) ls st (h.1, am_up h.2 q (k : Int) v) cb sb) : am_G p l e R s m args below meth c D cl ft cs A ad0 mL rt mc ms r h' pc ls (.inr (.inl v) :: .inr (.inr (q + 1)) :: st) h cb sb := by
  obtain ⟨hx, hb, hml, hr, hts, hown, hlk, hnm, hK, hA, hRf, hRl, hRc, hRs⟩ := X
  intro t H locs cls cells slots hR hS hL hO h1 h2
  obtain ⟨hlen, hP, hD, hM⟩ := hR
  have ev : am_cv (ad0 ++ t) (.inr (.inr (q + 1))) = .ref ((ad0 ++ t).getD q 0) := by show va_rf _ = _; rw [am_rv_at (by rw [hlen]; omega)]; rfl
  obtain ⟨ov, hO⟩ := List.forall_mem_cons.mp hO
  obtain ⟨oa, hO⟩ := List.forall_mem_cons.mp hO
  obtain ⟨hin, ty0, hty, hnmq, hln, htk⟩ := hC ci C T N hc
  have hk : k < N := by rw [← hln]; exact (List.getElem?_eq_some_iff.mp ht).1
  have tyk : ty0 k = .long := htk k 1 ht
  have hty2 : narrow (ty0 k) (.long (Int64.ofInt v)) = .long (Int64.ofInt v) ∧ fits (ty0 k) (.long (Int64.ofInt v)) = true := by rw [tyk]; exact ⟨rfl, rfl⟩
  have he := am_wl_get (ft := ft) (cs := cs) (ad := ad0 ++ t) hq
  rw [am_el_obj hs] at he
  rw [List.map_cons, List.map_cons, ev]
  refine va_putF hx hb hts hin ty0 hty hnmq hown hK.1 hP hD hS q he hc k hk (hts _ hl) (fun _ z => z) hf (by rw [hnm]; exact hi) ho (hty k hk) hty2.1 hty2.2 (by rw [am_fs_len, hln]; exact hk) hd (fun H1 locs1 hP1 hD1 hS1 => ?_)
  have ew := am_wl_set (ft := ft) (cs := cs) (ad := ad0 ++ t) (h := h) (h' := (h.1, am_up h.2 q (k : Int) v)) (k := q) (e := .inr (ci, (am_fs (ad0 ++ t) (h.2 q) (h.1.2.2 q) (ft ci) 0).set k (am_cv (ad0 ++ t) (.inr (.inl v))))) rfl (by show am_el ft cs (ad0 ++ t) (h.1.2.1 q) (am_up h.2 q (k : Int) v q) (h.1.2.2 q) = _; rw [am_up_self, am_el_obj hs, (am_fs_set (ad0 ++ t) (h.2 q) (fun j => if j = (k : Int) then v else h.2 q j) (h.1.2.2 q) (h.1.2.2 q) (ft ci) k 1 ht _ (by show am_fv _ 1 (if (k : Int) = (k : Int) then v else _) _ = _; rw [if_pos rfl]; rfl) (fun j hj => ⟨if_neg (by omega), rfl⟩))]) (fun j hj => ⟨rfl, am_up_ne _ _ _ hj, rfl⟩) hq
  rw [ew] at hP1 hD1
  exact ih t H1 locs1 cls cells slots ⟨hlen, hP1, hD1, (am_cM_up hM (by rw [am_ty_obj hs ht]; exact ov))⟩ hS1 hL hO h1 h2
theorem am_t_putR (X : am_cx p R s m args meth c D cl cs A C3 C4 nw Ts cc mL ret y d mc ms) (hC : am_clOK Ts cl ft) {ci k idx : Nat} {C : String} {T : u_T} {N : Nat} (hc : cl[ci]? = some (C, T, N)) (hl : Cond.fieldLink y.cls idx (T k).1 (T k).2.1 (T k).2.2.1 ∈ Ts) (ht : (ft ci)[k]? = some 2) (hf : (T k).2.2.2 = false) {q : Nat} {v : Nat} (hq : q < h.1.1) (hs : (h.1.2.1 q).1 = ci + 5) (hd : decode cc pc = .ok (.putfield idx, 3)) (ih : am_G p l e R s m args below meth c D cl ft cs A ad0 mL rt mc ms r h' (pc + 3) ls st ((h.1.1, h.1.2.1, am_up h.1.2.2 q (k : Int) v), h.2) cb sb) : am_G p l e R s m args below meth c D cl ft cs A ad0 mL rt mc ms r h' pc ls (.inr (.inr v) :: .inr (.inr (q + 1)) :: st) h cb sb := by
  obtain ⟨hx, hb, hml, hr, hts, hown, hlk, hnm, hK, hA, hRf, hRl, hRc, hRs⟩ := X
  intro t H locs cls cells slots hR hS hL hO h1 h2
  obtain ⟨hlen, hP, hD, hM⟩ := hR
  have ev : am_cv (ad0 ++ t) (.inr (.inr (q + 1))) = .ref ((ad0 ++ t).getD q 0) := by show va_rf _ = _; rw [am_rv_at (by rw [hlen]; omega)]; rfl
  obtain ⟨ov, hO⟩ := List.forall_mem_cons.mp hO
  obtain ⟨oa, hO⟩ := List.forall_mem_cons.mp hO
  obtain ⟨hin, ty0, hty, hnmq, hln, htk⟩ := hC ci C T N hc
  have hk : k < N := by rw [← hln]; exact (List.getElem?_eq_some_iff.mp ht).1
  have tyk : ((∃ C, ty0 k = .object C) ∨ ∃ u, ty0 k = .array u) := htk k 2 ht
  have hty2 : narrow (ty0 k) (va_rf (am_rv (ad0 ++ t) v)) = va_rf (am_rv (ad0 ++ t) v) ∧ fits (ty0 k) (va_rf (am_rv (ad0 ++ t) v)) = true := by
    rcases tyk with ⟨C', e⟩ | ⟨u, e⟩ <;> rw [e] <;> cases am_rv (ad0 ++ t) v <;> exact ⟨rfl, rfl⟩
  have he := am_wl_get (ft := ft) (cs := cs) (ad := ad0 ++ t) hq
  rw [am_el_obj hs] at he
  rw [List.map_cons, List.map_cons, ev]
  refine va_put hx hb hts hin ty0 hty hnmq hown hK.1 hP hD hS q he hc k hk (hts _ hl) (fun _ z => z) hf (hty k hk) hty2.1 hty2.2 (by rw [am_fs_len, hln]; exact hk) hd (fun H1 locs1 hP1 hD1 hS1 => ?_)
  have ew := am_wl_set (ft := ft) (cs := cs) (ad := ad0 ++ t) (h := h) (h' := ((h.1.1, h.1.2.1, am_up h.1.2.2 q (k : Int) v), h.2)) (k := q) (e := .inr (ci, (am_fs (ad0 ++ t) (h.2 q) (h.1.2.2 q) (ft ci) 0).set k (am_cv (ad0 ++ t) (.inr (.inr v))))) rfl (by show am_el ft cs (ad0 ++ t) (h.1.2.1 q) (h.2 q) (am_up h.1.2.2 q (k : Int) v q) = _; rw [am_up_self, am_el_obj hs, (am_fs_set (ad0 ++ t) (h.2 q) (h.2 q) (h.1.2.2 q) (fun j => if j = (k : Int) then v else h.1.2.2 q j) (ft ci) k 2 ht _ (by show am_fv _ 2 _ (if (k : Int) = (k : Int) then v else _) = _; rw [if_pos rfl]; rfl) (fun j hj => ⟨rfl, if_neg (by omega)⟩))]) (fun j hj => ⟨rfl, rfl, am_up_ne _ _ _ hj⟩) hq
  rw [ew] at hP1 hD1
  exact ih t H1 locs1 cls cells slots ⟨hlen, hP1, hD1, (am_cM_upr hM (by rw [am_ty_obj hs ht]; exact ov))⟩ hS1 hL hO h1 h2
theorem am_t_putRF (X : am_cx p R s m args meth c D cl cs A C3 C4 nw Ts cc mL ret y d mc ms) (hC : am_clOK Ts cl ft) {ci k idx : Nat} {C : String} {T : u_T} {N : Nat} (hc : cl[ci]? = some (C, T, N)) (hl : Cond.fieldLink y.cls idx (T k).1 (T k).2.1 (T k).2.2.1 ∈ Ts) (ht : (ft ci)[k]? = some 2) (hf : (T k).2.2.2 = true) (hi : y.name = "<init>") (ho : (T k).1 = y.cls) {q : Nat} {v : Nat} (hq : q < h.1.1) (hs : (h.1.2.1 q).1 = ci + 5) (hd : decode cc pc = .ok (.putfield idx, 3)) (ih : am_G p l e R s m args below meth c D cl ft cs A ad0 mL rt mc ms r h' (pc + 3) ls st ((h.1.1, h.1.2.1, am_up h.1.2.2 q (k : Int) v), h.2) cb sb) : am_G p l e R s m args below meth c D cl ft cs A ad0 mL rt mc ms r h' pc ls (.inr (.inr v) :: .inr (.inr (q + 1)) :: st) h cb sb := by
  obtain ⟨hx, hb, hml, hr, hts, hown, hlk, hnm, hK, hA, hRf, hRl, hRc, hRs⟩ := X
  intro t H locs cls cells slots hR hS hL hO h1 h2
  obtain ⟨hlen, hP, hD, hM⟩ := hR
  have ev : am_cv (ad0 ++ t) (.inr (.inr (q + 1))) = .ref ((ad0 ++ t).getD q 0) := by show va_rf _ = _; rw [am_rv_at (by rw [hlen]; omega)]; rfl
  obtain ⟨ov, hO⟩ := List.forall_mem_cons.mp hO
  obtain ⟨oa, hO⟩ := List.forall_mem_cons.mp hO
  obtain ⟨hin, ty0, hty, hnmq, hln, htk⟩ := hC ci C T N hc
  have hk : k < N := by rw [← hln]; exact (List.getElem?_eq_some_iff.mp ht).1
  have tyk : ((∃ C, ty0 k = .object C) ∨ ∃ u, ty0 k = .array u) := htk k 2 ht
  have hty2 : narrow (ty0 k) (va_rf (am_rv (ad0 ++ t) v)) = va_rf (am_rv (ad0 ++ t) v) ∧ fits (ty0 k) (va_rf (am_rv (ad0 ++ t) v)) = true := by
    rcases tyk with ⟨C', e⟩ | ⟨u, e⟩ <;> rw [e] <;> cases am_rv (ad0 ++ t) v <;> exact ⟨rfl, rfl⟩
  have he := am_wl_get (ft := ft) (cs := cs) (ad := ad0 ++ t) hq
  rw [am_el_obj hs] at he
  rw [List.map_cons, List.map_cons, ev]
  refine va_putF hx hb hts hin ty0 hty hnmq hown hK.1 hP hD hS q he hc k hk (hts _ hl) (fun _ z => z) hf (by rw [hnm]; exact hi) ho (hty k hk) hty2.1 hty2.2 (by rw [am_fs_len, hln]; exact hk) hd (fun H1 locs1 hP1 hD1 hS1 => ?_)
  have ew := am_wl_set (ft := ft) (cs := cs) (ad := ad0 ++ t) (h := h) (h' := ((h.1.1, h.1.2.1, am_up h.1.2.2 q (k : Int) v), h.2)) (k := q) (e := .inr (ci, (am_fs (ad0 ++ t) (h.2 q) (h.1.2.2 q) (ft ci) 0).set k (am_cv (ad0 ++ t) (.inr (.inr v))))) rfl (by show am_el ft cs (ad0 ++ t) (h.1.2.1 q) (h.2 q) (am_up h.1.2.2 q (k : Int) v q) = _; rw [am_up_self, am_el_obj hs, (am_fs_set (ad0 ++ t) (h.2 q) (h.2 q) (h.1.2.2 q) (fun j => if j = (k : Int) then v else h.1.2.2 q j) (ft ci) k 2 ht _ (by show am_fv _ 2 _ (if (k : Int) = (k : Int) then v else _) = _; rw [if_pos rfl]; rfl) (fun j hj => ⟨rfl, if_neg (by omega)⟩))]) (fun j hj => ⟨rfl, rfl, am_up_ne _ _ _ hj⟩) hq
  rw [ew] at hP1 hD1
  exact ih t H1 locs1 cls cells slots ⟨hlen, hP1, hD1, (am_cM_upr hM (by rw [am_ty_obj hs ht]; exact ov))⟩ hS1 hL hO h1 h2
theorem am_t_putZ (X : am_cx p R s m args meth c D cl cs A C3 C4 nw Ts cc mL ret y d mc ms) (hC : am_clOK Ts cl ft) {ci k idx : Nat} {C : String} {T : u_T} {N : Nat} (hc : cl[ci]? = some (C, T, N)) (hl : Cond.fieldLink y.cls idx (T k).1 (T k).2.1 (T k).2.2.1 ∈ Ts) (ht : (ft ci)[k]? = some 3) (hf : (T k).2.2.2 = false) {q : Nat} {v : Int} (hz : v = 0 ∨ v = 1) (hq : q < h.1.1) (hs : (h.1.2.1 q).1 = ci + 5) (hd : decode cc pc = .ok (.putfield idx, 3)) (ih : am_G p l e R s m args below meth c D cl ft cs A ad0 mL rt mc ms r h' (pc + 3) ls st (h.1, am_up h.2 q (k : Int) v) cb sb) : am_G p l e R s m args below meth c D cl ft cs A ad0 mL rt mc ms r h' pc ls (.inl v :: .inr (.inr (q + 1)) :: st) h cb sb := by
  obtain ⟨hx, hb, hml, hr, hts, hown, hlk, hnm, hK, hA, hRf, hRl, hRc, hRs⟩ := X
  intro t H locs cls cells slots hR hS hL hO h1 h2
  obtain ⟨hlen, hP, hD, hM⟩ := hR
  have ev : am_cv (ad0 ++ t) (.inr (.inr (q + 1))) = .ref ((ad0 ++ t).getD q 0) := by show va_rf _ = _; rw [am_rv_at (by rw [hlen]; omega)]; rfl
  obtain ⟨ov, hO⟩ := List.forall_mem_cons.mp hO
  obtain ⟨oa, hO⟩ := List.forall_mem_cons.mp hO
  obtain ⟨hin, ty0, hty, hnmq, hln, htk⟩ := hC ci C T N hc
  have hk : k < N := by rw [← hln]; exact (List.getElem?_eq_some_iff.mp ht).1
  have tyk : ty0 k = .boolean := htk k 3 ht
  have hty2 : narrow (ty0 k) (.int (Int32.ofInt v)) = .int (Int32.ofInt v) ∧ fits (ty0 k) (.int (Int32.ofInt v)) = true := by
    rw [tyk]; rcases hz with rfl | rfl <;> exact ⟨by decide, by decide⟩
  have he := am_wl_get (ft := ft) (cs := cs) (ad := ad0 ++ t) hq
  rw [am_el_obj hs] at he
  rw [List.map_cons, List.map_cons, ev]
  refine va_put hx hb hts hin ty0 hty hnmq hown hK.1 hP hD hS q he hc k hk (hts _ hl) (fun _ z => z) hf (hty k hk) hty2.1 hty2.2 (by rw [am_fs_len, hln]; exact hk) hd (fun H1 locs1 hP1 hD1 hS1 => ?_)
  have ew := am_wl_set (ft := ft) (cs := cs) (ad := ad0 ++ t) (h := h) (h' := (h.1, am_up h.2 q (k : Int) v)) (k := q) (e := .inr (ci, (am_fs (ad0 ++ t) (h.2 q) (h.1.2.2 q) (ft ci) 0).set k (am_cv (ad0 ++ t) (.inl v)))) rfl (by show am_el ft cs (ad0 ++ t) (h.1.2.1 q) (am_up h.2 q (k : Int) v q) (h.1.2.2 q) = _; rw [am_up_self, am_el_obj hs, (am_fs_set (ad0 ++ t) (h.2 q) (fun j => if j = (k : Int) then v else h.2 q j) (h.1.2.2 q) (h.1.2.2 q) (ft ci) k 3 ht _ (by show am_fv _ 3 (if (k : Int) = (k : Int) then v else _) _ = _; rw [if_pos rfl]; rfl) (fun j hj => ⟨if_neg (by omega), rfl⟩))]) (fun j hj => ⟨rfl, am_up_ne _ _ _ hj, rfl⟩) hq
  rw [ew] at hP1 hD1
  exact ih t H1 locs1 cls cells slots ⟨hlen, hP1, hD1, (am_cM_up hM (by rw [am_ty_obj hs ht]; exact hz))⟩ hS1 hL hO h1 h2
theorem am_t_putZF (X : am_cx p R s m args meth c D cl cs A C3 C4 nw Ts cc mL ret y d mc ms) (hC : am_clOK Ts cl ft) {ci k idx : Nat} {C : String} {T : u_T} {N : Nat} (hc : cl[ci]? = some (C, T, N)) (hl : Cond.fieldLink y.cls idx (T k).1 (T k).2.1 (T k).2.2.1 ∈ Ts) (ht : (ft ci)[k]? = some 3) (hf : (T k).2.2.2 = true) (hi : y.name = "<init>") (ho : (T k).1 = y.cls) {q : Nat} {v : Int} (hz : v = 0 ∨ v = 1) (hq : q < h.1.1) (hs : (h.1.2.1 q).1 = ci + 5) (hd : decode cc pc = .ok (.putfield idx, 3)) (ih : am_G p l e R s m args below meth c D cl ft cs A ad0 mL rt mc ms r h' (pc + 3) ls st (h.1, am_up h.2 q (k : Int) v) cb sb) : am_G p l e R s m args below meth c D cl ft cs A ad0 mL rt mc ms r h' pc ls (.inl v :: .inr (.inr (q + 1)) :: st) h cb sb := by
  obtain ⟨hx, hb, hml, hr, hts, hown, hlk, hnm, hK, hA, hRf, hRl, hRc, hRs⟩ := X
  intro t H locs cls cells slots hR hS hL hO h1 h2
  obtain ⟨hlen, hP, hD, hM⟩ := hR
  have ev : am_cv (ad0 ++ t) (.inr (.inr (q + 1))) = .ref ((ad0 ++ t).getD q 0) := by show va_rf _ = _; rw [am_rv_at (by rw [hlen]; omega)]; rfl
  obtain ⟨ov, hO⟩ := List.forall_mem_cons.mp hO
  obtain ⟨oa, hO⟩ := List.forall_mem_cons.mp hO
  obtain ⟨hin, ty0, hty, hnmq, hln, htk⟩ := hC ci C T N hc
  have hk : k < N := by rw [← hln]; exact (List.getElem?_eq_some_iff.mp ht).1
  have tyk : ty0 k = .boolean := htk k 3 ht
  have hty2 : narrow (ty0 k) (.int (Int32.ofInt v)) = .int (Int32.ofInt v) ∧ fits (ty0 k) (.int (Int32.ofInt v)) = true := by
    rw [tyk]; rcases hz with rfl | rfl <;> exact ⟨by decide, by decide⟩
  have he := am_wl_get (ft := ft) (cs := cs) (ad := ad0 ++ t) hq
  rw [am_el_obj hs] at he
  rw [List.map_cons, List.map_cons, ev]
  refine va_putF hx hb hts hin ty0 hty hnmq hown hK.1 hP hD hS q he hc k hk (hts _ hl) (fun _ z => z) hf (by rw [hnm]; exact hi) ho (hty k hk) hty2.1 hty2.2 (by rw [am_fs_len, hln]; exact hk) hd (fun H1 locs1 hP1 hD1 hS1 => ?_)
  have ew := am_wl_set (ft := ft) (cs := cs) (ad := ad0 ++ t) (h := h) (h' := (h.1, am_up h.2 q (k : Int) v)) (k := q) (e := .inr (ci, (am_fs (ad0 ++ t) (h.2 q) (h.1.2.2 q) (ft ci) 0).set k (am_cv (ad0 ++ t) (.inl v)))) rfl (by show am_el ft cs (ad0 ++ t) (h.1.2.1 q) (am_up h.2 q (k : Int) v q) (h.1.2.2 q) = _; rw [am_up_self, am_el_obj hs, (am_fs_set (ad0 ++ t) (h.2 q) (fun j => if j = (k : Int) then v else h.2 q j) (h.1.2.2 q) (h.1.2.2 q) (ft ci) k 3 ht _ (by show am_fv _ 3 (if (k : Int) = (k : Int) then v else _) _ = _; rw [if_pos rfl]; rfl) (fun j hj => ⟨if_neg (by omega), rfl⟩))]) (fun j hj => ⟨rfl, am_up_ne _ _ _ hj, rfl⟩) hq
  rw [ew] at hP1 hD1
  exact ih t H1 locs1 cls cells slots ⟨hlen, hP1, hD1, (am_cM_up hM (by rw [am_ty_obj hs ht]; exact hz))⟩ hS1 hL hO h1 h2
theorem am_t_iaload (X : am_cx p R s m args meth c D cl cs A C3 C4 nw Ts cc mL ret y d mc ms) {i : Int} {q : Nat} (hq : q < h.1.1) (hs : (h.1.2.1 q).1 = 0) (i0 : 0 ≤ i) (i1 : i < ((h.1.2.1 q).2 : Int)) (hd : decode cc pc = .ok (.iaload, 1)) (ih : am_G p l e R s m args below meth c D cl ft cs A ad0 mL rt mc ms r h' (pc + 1) ls (.inl (h.2 q i) :: st) h cb sb) : am_G p l e R s m args below meth c D cl ft cs A ad0 mL rt mc ms r h' pc ls (.inl i :: .inr (.inr (q + 1)) :: st) h cb sb := by
  obtain ⟨hx, hb, hml, hr, hts, hown, hlk, hnm, hK, hA, hRf, hRl, hRc, hRs⟩ := X
  intro t H locs cls cells slots hR hS hL hO h1 h2
  obtain ⟨hlen, hP, hD, hM⟩ := hR
  have ev : am_cv (ad0 ++ t) (.inr (.inr (q + 1))) = .ref ((ad0 ++ t).getD q 0) := by show va_rf _ = _; rw [am_rv_at (by rw [hlen]; omega)]; rfl
  obtain ⟨oi, hO⟩ := List.forall_mem_cons.mp hO
  obtain ⟨oa, hO⟩ := List.forall_mem_cons.mp hO
  have he := am_wl_get (ft := ft) (cs := cs) (ad := ad0 ++ t) hq
  have tk := hM q hq i i0
  generalize hsh : h.1.2.1 q = sh at hs i1 he tk
  obtain ⟨kd, n⟩ := sh
  have hs : kd = 0 := hs
  subst hs
  have k0 := ih t H locs cls cells slots ⟨hlen, hP, hD, hM⟩ hS hL (List.forall_mem_cons.mpr ⟨tk, hO⟩) h1 h2
  have ei : ((Int32.ofInt i).toNatClampNeg : Int) = i := by rw [am_nat32 oi]; omega
  rw [List.map_cons, List.map_cons, ev]
  refine va_iald hx hb hK.1 hP q 0 he rfl (am_in oi i0 i1) hd ?_
  rw [ei]
  exact k0
theorem am_t_laload (X : am_cx p R s m args meth c D cl cs A C3 C4 nw Ts cc mL ret y d mc ms) {i : Int} {q : Nat} (hq : q < h.1.1) (hs : (h.1.2.1 q).1 = 1) (i0 : 0 ≤ i) (i1 : i < ((h.1.2.1 q).2 : Int)) (hd : decode cc pc = .ok (.laload, 1)) (ih : am_G p l e R s m args below meth c D cl ft cs A ad0 mL rt mc ms r h' (pc + 1) ls (.inr (.inl (h.2 q i)) :: st) h cb sb) : am_G p l e R s m args below meth c D cl ft cs A ad0 mL rt mc ms r h' pc ls (.inl i :: .inr (.inr (q + 1)) :: st) h cb sb := by
  obtain ⟨hx, hb, hml, hr, hts, hown, hlk, hnm, hK, hA, hRf, hRl, hRc, hRs⟩ := X
  intro t H locs cls cells slots hR hS hL hO h1 h2
  obtain ⟨hlen, hP, hD, hM⟩ := hR
  have ev : am_cv (ad0 ++ t) (.inr (.inr (q + 1))) = .ref ((ad0 ++ t).getD q 0) := by show va_rf _ = _; rw [am_rv_at (by rw [hlen]; omega)]; rfl
  obtain ⟨oi, hO⟩ := List.forall_mem_cons.mp hO
  obtain ⟨oa, hO⟩ := List.forall_mem_cons.mp hO
  have he := am_wl_get (ft := ft) (cs := cs) (ad := ad0 ++ t) hq
  have tk := hM q hq i i0
  generalize hsh : h.1.2.1 q = sh at hs i1 he tk
  obtain ⟨kd, n⟩ := sh
  have hs : kd = 1 := hs
  subst hs
  have k0 := ih t H locs cls cells slots ⟨hlen, hP, hD, hM⟩ hS hL (List.forall_mem_cons.mpr ⟨tk, hO⟩) h1 h2
  have ei : ((Int32.ofInt i).toNatClampNeg : Int) = i := by rw [am_nat32 oi]; omega
  rw [List.map_cons, List.map_cons, ev]
  refine va_lald hx hb hK.1 hP q 1 he rfl (am_in oi i0 i1) hd ?_
  rw [ei]
  exact k0
theorem am_t_baload (X : am_cx p R s m args meth c D cl cs A C3 C4 nw Ts cc mL ret y d mc ms) {i : Int} {q : Nat} (hq : q < h.1.1) (hs : (h.1.2.1 q).1 = 2) (i0 : 0 ≤ i) (i1 : i < ((h.1.2.1 q).2 : Int)) (hd : decode cc pc = .ok (.baload, 1)) (ih : am_G p l e R s m args below meth c D cl ft cs A ad0 mL rt mc ms r h' (pc + 1) ls (.inl (h.2 q i) :: st) h cb sb) : am_G p l e R s m args below meth c D cl ft cs A ad0 mL rt mc ms r h' pc ls (.inl i :: .inr (.inr (q + 1)) :: st) h cb sb := by
  obtain ⟨hx, hb, hml, hr, hts, hown, hlk, hnm, hK, hA, hRf, hRl, hRc, hRs⟩ := X
  intro t H locs cls cells slots hR hS hL hO h1 h2
  obtain ⟨hlen, hP, hD, hM⟩ := hR
  have ev : am_cv (ad0 ++ t) (.inr (.inr (q + 1))) = .ref ((ad0 ++ t).getD q 0) := by show va_rf _ = _; rw [am_rv_at (by rw [hlen]; omega)]; rfl
  obtain ⟨oi, hO⟩ := List.forall_mem_cons.mp hO
  obtain ⟨oa, hO⟩ := List.forall_mem_cons.mp hO
  have he := am_wl_get (ft := ft) (cs := cs) (ad := ad0 ++ t) hq
  have tk := hM q hq i i0
  generalize hsh : h.1.2.1 q = sh at hs i1 he tk
  obtain ⟨kd, n⟩ := sh
  have hs : kd = 2 := hs
  subst hs
  have k0 := ih t H locs cls cells slots ⟨hlen, hP, hD, hM⟩ hS hL (List.forall_mem_cons.mpr ⟨(by have tk : -128 ≤ h.2 q i ∧ h.2 q i < 128 := tk; show am_i32 (h.2 q i); unfold am_i32; omega), hO⟩) h1 h2
  have ei : ((Int32.ofInt i).toNatClampNeg : Int) = i := by rw [am_nat32 oi]; omega
  rw [List.map_cons, List.map_cons, ev]
  refine va_bald hx hb hK.1 hP q 2 he rfl (am_in oi i0 i1) hd ?_
  rw [ei]
  exact k0
theorem am_t_aaload (X : am_cx p R s m args meth c D cl cs A C3 C4 nw Ts cc mL ret y d mc ms) {i : Int} {q x1 : Nat} (hx1 : x1 = 3 ∨ x1 = 4) (hq : q < h.1.1) (hs : (h.1.2.1 q).1 = x1) (i0 : 0 ≤ i) (i1 : i < ((h.1.2.1 q).2 : Int)) (hd : decode cc pc = .ok (.aaload, 1)) (ih : am_G p l e R s m args below meth c D cl ft cs A ad0 mL rt mc ms r h' (pc + 1) ls (.inr (.inr (h.1.2.2 q i)) :: st) h cb sb) : am_G p l e R s m args below meth c D cl ft cs A ad0 mL rt mc ms r h' pc ls (.inl i :: .inr (.inr (q + 1)) :: st) h cb sb := by
  obtain ⟨hx, hb, hml, hr, hts, hown, hlk, hnm, hK, hA, hRf, hRl, hRc, hRs⟩ := X
  intro t H locs cls cells slots hR hS hL hO h1 h2
  obtain ⟨hlen, hP, hD, hM⟩ := hR
  have ev : am_cv (ad0 ++ t) (.inr (.inr (q + 1))) = .ref ((ad0 ++ t).getD q 0) := by show va_rf _ = _; rw [am_rv_at (by rw [hlen]; omega)]; rfl
  obtain ⟨oi, hO⟩ := List.forall_mem_cons.mp hO
  obtain ⟨oa, hO⟩ := List.forall_mem_cons.mp hO
  have he := am_wl_get (ft := ft) (cs := cs) (ad := ad0 ++ t) hq
  have tk := hM q hq i i0
  generalize hsh : h.1.2.1 q = sh at hs i1 he tk
  obtain ⟨kd, n⟩ := sh
  have ei : ((Int32.ofInt i).toNatClampNeg : Int) = i := by rw [am_nat32 oi]; omega
  rw [List.map_cons, List.map_cons, ev]
  rcases hx1 with e | e
  · have hs : kd = 3 := hs.trans e
    subst hs
    refine va_aldq hx hb hK.1 hP q 3 he rfl (am_in oi i0 i1) hd ?_
    rw [ei]
    exact ih t H locs cls cells slots ⟨hlen, hP, hD, hM⟩ hS hL (List.forall_mem_cons.mpr ⟨tk, hO⟩) h1 h2
  · have hs : kd = 4 := hs.trans e
    subst hs
    refine va_aldq hx hb hK.1 hP q 4 he rfl (am_in oi i0 i1) hd ?_
    rw [ei]
    exact ih t H locs cls cells slots ⟨hlen, hP, hD, hM⟩ hS hL (List.forall_mem_cons.mpr ⟨tk, hO⟩) h1 h2
theorem am_t_iastore (X : am_cx p R s m args meth c D cl cs A C3 C4 nw Ts cc mL ret y d mc ms) {i v : Int} {q : Nat} (hq : q < h.1.1) (hs : (h.1.2.1 q).1 = 0) (i0 : 0 ≤ i) (i1 : i < ((h.1.2.1 q).2 : Int)) (hd : decode cc pc = .ok (.iastore, 1)) (ih : am_G p l e R s m args below meth c D cl ft cs A ad0 mL rt mc ms r h' (pc + 1) ls st (h.1, am_up h.2 q i v) cb sb) : am_G p l e R s m args below meth c D cl ft cs A ad0 mL rt mc ms r h' pc ls (.inl v :: .inl i :: .inr (.inr (q + 1)) :: st) h cb sb := by
  obtain ⟨hx, hb, hml, hr, hts, hown, hlk, hnm, hK, hA, hRf, hRl, hRc, hRs⟩ := X
  intro t H locs cls cells slots hR hS hL hO h1 h2
  obtain ⟨hlen, hP, hD, hM⟩ := hR
  have ev : am_cv (ad0 ++ t) (.inr (.inr (q + 1))) = .ref ((ad0 ++ t).getD q 0) := by show va_rf _ = _; rw [am_rv_at (by rw [hlen]; omega)]; rfl
  obtain ⟨ov, hO⟩ := List.forall_mem_cons.mp hO
  obtain ⟨oi, hO⟩ := List.forall_mem_cons.mp hO
  obtain ⟨oa, hO⟩ := List.forall_mem_cons.mp hO
  have he := am_wl_get (ft := ft) (cs := cs) (ad := ad0 ++ t) hq
  obtain ⟨n, hsh⟩ : ∃ n, h.1.2.1 q = (0, n) := ⟨(h.1.2.1 q).2, by rw [← hs]⟩
  have cm := am_cM_up (q := q) (i := i) (v := v) hM (by rw [hsh]; exact ov)
  have ew := fun (el : va_E) (he : am_el ft cs (ad0 ++ t) (h.1.2.1 q) (am_up h.2 q i v q) (h.1.2.2 q) = el) => am_wl_set (ft := ft) (cs := cs) (ad := ad0 ++ t) (h := h) (h' := (h.1, am_up h.2 q i v)) (k := q) rfl he (fun j hj => ⟨rfl, am_up_ne _ _ _ hj, rfl⟩) hq
  rw [hsh] at i1 he ew
  have ei : (Int32.ofInt i).toNatClampNeg = i.toNat := am_nat32 oi
  rw [List.map_cons, List.map_cons, List.map_cons, ev]
  refine va_iast hx hb hK.1 hP hD hS q 0 he rfl (am_in oi i0 i1) hd (fun H1 locs1 hP1 hD1 hS1 => ?_)
  rw [ew _ (by
    rw [am_up_self, ei]
    show Sum.inl (cs 0, n, Sum.inl (fun j : Nat => Int32.ofInt (if (j : Int) = i then v else h.2 q (j : Int)))) = _
    congr 4
    funext j
    show _ = (if j = i.toNat then _ else _)
    by_cases e : (j : Int) = i
    · rw [if_pos e, if_pos (by omega)]
    · rw [if_neg e, if_neg (by omega)])] at hP1 hD1
  exact ih t H1 locs1 cls cells slots ⟨hlen, hP1, hD1, cm⟩ hS1 hL hO h1 h2
theorem am_t_lastore (X : am_cx p R s m args meth c D cl cs A C3 C4 nw Ts cc mL ret y d mc ms) {i v : Int} {q : Nat} (hq : q < h.1.1) (hs : (h.1.2.1 q).1 = 1) (i0 : 0 ≤ i) (i1 : i < ((h.1.2.1 q).2 : Int)) (hd : decode cc pc = .ok (.lastore, 1)) (ih : am_G p l e R s m args below meth c D cl ft cs A ad0 mL rt mc ms r h' (pc + 1) ls st (h.1, am_up h.2 q i v) cb sb) : am_G p l e R s m args below meth c D cl ft cs A ad0 mL rt mc ms r h' pc ls (.inr (.inl v) :: .inl i :: .inr (.inr (q + 1)) :: st) h cb sb := by
  obtain ⟨hx, hb, hml, hr, hts, hown, hlk, hnm, hK, hA, hRf, hRl, hRc, hRs⟩ := X
  intro t H locs cls cells slots hR hS hL hO h1 h2
  obtain ⟨hlen, hP, hD, hM⟩ := hR
  have ev : am_cv (ad0 ++ t) (.inr (.inr (q + 1))) = .ref ((ad0 ++ t).getD q 0) := by show va_rf _ = _; rw [am_rv_at (by rw [hlen]; omega)]; rfl
  obtain ⟨ov, hO⟩ := List.forall_mem_cons.mp hO
  obtain ⟨oi, hO⟩ := List.forall_mem_cons.mp hO
  obtain ⟨oa, hO⟩ := List.forall_mem_cons.mp hO
  have he := am_wl_get (ft := ft) (cs := cs) (ad := ad0 ++ t) hq
  obtain ⟨n, hsh⟩ : ∃ n, h.1.2.1 q = (1, n) := ⟨(h.1.2.1 q).2, by rw [← hs]⟩
  have cm := am_cM_up (q := q) (i := i) (v := v) hM (by rw [hsh]; exact ov)
  have ew := fun (el : va_E) (he : am_el ft cs (ad0 ++ t) (h.1.2.1 q) (am_up h.2 q i v q) (h.1.2.2 q) = el) => am_wl_set (ft := ft) (cs := cs) (ad := ad0 ++ t) (h := h) (h' := (h.1, am_up h.2 q i v)) (k := q) rfl he (fun j hj => ⟨rfl, am_up_ne _ _ _ hj, rfl⟩) hq
  rw [hsh] at i1 he ew
  have ei : (Int32.ofInt i).toNatClampNeg = i.toNat := am_nat32 oi
  rw [List.map_cons, List.map_cons, List.map_cons, ev]
  refine va_last hx hb hK.1 hP hD hS q 1 he rfl (am_in oi i0 i1) hd (fun H1 locs1 hP1 hD1 hS1 => ?_)
  rw [ew _ (by
    rw [am_up_self, ei]
    show Sum.inl (cs 1, n, Sum.inr (Sum.inl (fun j : Nat => Int64.ofInt (if (j : Int) = i then v else h.2 q (j : Int))))) = _
    congr 5
    funext j
    show _ = (if j = i.toNat then _ else _)
    by_cases e : (j : Int) = i
    · rw [if_pos e, if_pos (by omega)]
    · rw [if_neg e, if_neg (by omega)])] at hP1 hD1
  exact ih t H1 locs1 cls cells slots ⟨hlen, hP1, hD1, cm⟩ hS1 hL hO h1 h2
theorem am_t_bastore (X : am_cx p R s m args meth c D cl cs A C3 C4 nw Ts cc mL ret y d mc ms) {i v : Int} {q : Nat} (hq : q < h.1.1) (hs : (h.1.2.1 q).1 = 2) (i0 : 0 ≤ i) (i1 : i < ((h.1.2.1 q).2 : Int)) (hd : decode cc pc = .ok (.bastore, 1)) (ih : am_G p l e R s m args below meth c D cl ft cs A ad0 mL rt mc ms r h' (pc + 1) ls st (h.1, am_up h.2 q i (w8 v)) cb sb) : am_G p l e R s m args below meth c D cl ft cs A ad0 mL rt mc ms r h' pc ls (.inl v :: .inl i :: .inr (.inr (q + 1)) :: st) h cb sb := by
  obtain ⟨hx, hb, hml, hr, hts, hown, hlk, hnm, hK, hA, hRf, hRl, hRc, hRs⟩ := X
  intro t H locs cls cells slots hR hS hL hO h1 h2
  obtain ⟨hlen, hP, hD, hM⟩ := hR
  have ev : am_cv (ad0 ++ t) (.inr (.inr (q + 1))) = .ref ((ad0 ++ t).getD q 0) := by show va_rf _ = _; rw [am_rv_at (by rw [hlen]; omega)]; rfl
  obtain ⟨ov, hO⟩ := List.forall_mem_cons.mp hO
  obtain ⟨oi, hO⟩ := List.forall_mem_cons.mp hO
  obtain ⟨oa, hO⟩ := List.forall_mem_cons.mp hO
  have he := am_wl_get (ft := ft) (cs := cs) (ad := ad0 ++ t) hq
  obtain ⟨n, hsh⟩ : ∃ n, h.1.2.1 q = (2, n) := ⟨(h.1.2.1 q).2, by rw [← hs]⟩
  have cm := am_cM_up (q := q) (i := i) (v := (w8 v)) hM (by rw [hsh]; exact w8_rng v)
  have ew := fun (el : va_E) (he : am_el ft cs (ad0 ++ t) (h.1.2.1 q) (am_up h.2 q i (w8 v) q) (h.1.2.2 q) = el) => am_wl_set (ft := ft) (cs := cs) (ad := ad0 ++ t) (h := h) (h' := (h.1, am_up h.2 q i (w8 v))) (k := q) rfl he (fun j hj => ⟨rfl, am_up_ne _ _ _ hj, rfl⟩) hq
  rw [hsh] at i1 he ew
  have ei : (Int32.ofInt i).toNatClampNeg = i.toNat := am_nat32 oi
  rw [List.map_cons, List.map_cons, List.map_cons, ev]
  refine va_bast hx hb hK.1 hP hD hS q 2 he rfl (am_in oi i0 i1) hd (fun H1 locs1 hP1 hD1 hS1 => ?_)
  rw [ew _ (by
    rw [am_up_self, ei]
    show Sum.inl (cs 2, n, Sum.inl (fun j : Nat => Int32.ofInt (if (j : Int) = i then (w8 v) else h.2 q (j : Int)))) = _
    congr 4
    funext j
    show _ = (if j = i.toNat then _ else _)
    by_cases e : (j : Int) = i
    · rw [if_pos e, if_pos (by omega)]; exact (am_i2b v).symm
    · rw [if_neg e, if_neg (by omega)])] at hP1 hD1
  exact ih t H1 locs1 cls cells slots ⟨hlen, hP1, hD1, cm⟩ hS1 hL hO h1 h2
theorem am_t_alen (X : am_cx p R s m args meth c D cl cs A C3 C4 nw Ts cc mL ret y d mc ms) {q x1 : Nat} (hx1 : x1 < 5) (hq : q < h.1.1) (hs : (h.1.2.1 q).1 = x1) (hn : (h.1.2.1 q).2 < 2147483648) (hd : decode cc pc = .ok (.arraylength, 1)) (ih : am_G p l e R s m args below meth c D cl ft cs A ad0 mL rt mc ms r h' (pc + 1) ls (.inl ((h.1.2.1 q).2 : Int) :: st) h cb sb) : am_G p l e R s m args below meth c D cl ft cs A ad0 mL rt mc ms r h' pc ls (.inr (.inr (q + 1)) :: st) h cb sb := by
  obtain ⟨hx, hb, hml, hr, hts, hown, hlk, hnm, hK, hA, hRf, hRl, hRc, hRs⟩ := X
  intro t H locs cls cells slots hR hS hL hO h1 h2
  obtain ⟨hlen, hP, hD, hM⟩ := hR
  have ev : am_cv (ad0 ++ t) (.inr (.inr (q + 1))) = .ref ((ad0 ++ t).getD q 0) := by show va_rf _ = _; rw [am_rv_at (by rw [hlen]; omega)]; rfl
  obtain ⟨oa, hO⟩ := List.forall_mem_cons.mp hO
  have he := am_wl_get (ft := ft) (cs := cs) (ad := ad0 ++ t) hq
  have k0 := ih t H locs cls cells slots ⟨hlen, hP, hD, hM⟩ hS hL (List.forall_mem_cons.mpr ⟨(by show am_i32 _; unfold am_i32; omega), hO⟩) h1 h2
  generalize hsh : h.1.2.1 q = sh at hs he k0 hn
  obtain ⟨kd, n⟩ := sh
  have hs : kd = x1 := hs
  subst hs
  rw [List.map_cons, ev]
  match kd, hx1, he, k0 with
  | 0, _, he, k0 => exact va_alen hx hb hK.1 hP q 0 he rfl (v := Int32.ofInt (n : Int)) Int32.ofInt_eq_ofNat.symm hd k0
  | 1, _, he, k0 => exact va_alen hx hb hK.1 hP q 1 he rfl (v := Int32.ofInt (n : Int)) Int32.ofInt_eq_ofNat.symm hd k0
  | 2, _, he, k0 => exact va_alen hx hb hK.1 hP q 2 he rfl (v := Int32.ofInt (n : Int)) Int32.ofInt_eq_ofNat.symm hd k0
  | 3, _, he, k0 => exact va_alen hx hb hK.1 hP q 3 he rfl (v := Int32.ofInt (n : Int)) Int32.ofInt_eq_ofNat.symm hd k0
  | 4, _, he, k0 => exact va_alen hx hb hK.1 hP q 4 he rfl (v := Int32.ofInt (n : Int)) Int32.ofInt_eq_ofNat.symm hd k0
end AM8
