section AM7
variable {p : Program} {l : Launch} {e : Env} {R : Room} {s : State} {m : MethodId} {args : Array Value} {below : List Frame} {meth : Method} {c : Code}
variable {D : va_G} {cl : List vw_C} {ft : Nat → List Nat} {cs : Nat → ClassId} {A : Nat → Prop} {C3 C4 : String} {nw : List (String × Nat × MethodName × String)} {Ts : List Cond} {cc : ByteArray} {ret : Option FieldType} {y : MethodName} {d : Nat}
variable {ad0 : List Nat} {mL rt mc ms : Nat} {r : Int} {h' : am_h} {pc : Nat} {ls : am_l} {st : List am_v} {h : am_h} {cb sb : Nat}
theorem am_t_iload (X : am_cx p R s m args meth c D cl cs A C3 C4 nw Ts cc mL ret y d mc ms) {k : Nat} {x : Int} (hd : decode cc pc = .ok (.iload k, 2)) (e1 : am_ld ls k = some (.inl x)) (ih : am_G p l e R s m args below meth c D cl ft cs A ad0 mL rt mc ms r h' (pc + 2) ls (.inl x :: st) h cb sb) : am_G p l e R s m args below meth c D cl ft cs A ad0 mL rt mc ms r h' pc ls st h cb sb := by
  obtain ⟨hx, hb, hml, hr, hts, hown, hlk, hnm, hK, hA, hRf, hRl, hRc, hRs⟩ := X
  intro t H locs cls cells slots hR hS hL hO h1 h2
  have q := hL.2.2 _ _ e1
  exact lv_iload hx hb hd q.1 (ih t H locs cls cells slots hR hS hL (List.forall_mem_cons.mpr ⟨q.2, hO⟩) h1 h2)
theorem am_t_iload_n (X : am_cx p R s m args meth c D cl cs A C3 C4 nw Ts cc mL ret y d mc ms) {k : Fin 4} {x : Int} (hd : decode cc pc = .ok (.iload_n k, 1)) (e1 : am_ld ls (k : Nat) = some (.inl x)) (ih : am_G p l e R s m args below meth c D cl ft cs A ad0 mL rt mc ms r h' (pc + 1) ls (.inl x :: st) h cb sb) : am_G p l e R s m args below meth c D cl ft cs A ad0 mL rt mc ms r h' pc ls st h cb sb := by
  obtain ⟨hx, hb, hml, hr, hts, hown, hlk, hnm, hK, hA, hRf, hRl, hRc, hRs⟩ := X
  intro t H locs cls cells slots hR hS hL hO h1 h2
  have q := hL.2.2 _ _ e1
  exact lv_iload_n hx hb hd rfl q.1 (ih t H locs cls cells slots hR hS hL (List.forall_mem_cons.mpr ⟨q.2, hO⟩) h1 h2)
theorem am_t_lload (X : am_cx p R s m args meth c D cl cs A C3 C4 nw Ts cc mL ret y d mc ms) {k : Nat} {x : Int} (hd : decode cc pc = .ok (.lload k, 2)) (e1 : am_ld ls k = some (.inr (.inl x))) (ih : am_G p l e R s m args below meth c D cl ft cs A ad0 mL rt mc ms r h' (pc + 2) ls (.inr (.inl x) :: st) h cb sb) : am_G p l e R s m args below meth c D cl ft cs A ad0 mL rt mc ms r h' pc ls st h cb sb := by
  obtain ⟨hx, hb, hml, hr, hts, hown, hlk, hnm, hK, hA, hRf, hRl, hRc, hRs⟩ := X
  intro t H locs cls cells slots hR hS hL hO h1 h2
  have q := hL.2.2 _ _ e1
  exact lv_lload hx hb hd q.1 (ih t H locs cls cells slots hR hS hL (List.forall_mem_cons.mpr ⟨q.2, hO⟩) h1 h2)
theorem am_t_lload_n (X : am_cx p R s m args meth c D cl cs A C3 C4 nw Ts cc mL ret y d mc ms) {k : Fin 4} {x : Int} (hd : decode cc pc = .ok (.lload_n k, 1)) (e1 : am_ld ls (k : Nat) = some (.inr (.inl x))) (ih : am_G p l e R s m args below meth c D cl ft cs A ad0 mL rt mc ms r h' (pc + 1) ls (.inr (.inl x) :: st) h cb sb) : am_G p l e R s m args below meth c D cl ft cs A ad0 mL rt mc ms r h' pc ls st h cb sb := by
  obtain ⟨hx, hb, hml, hr, hts, hown, hlk, hnm, hK, hA, hRf, hRl, hRc, hRs⟩ := X
  intro t H locs cls cells slots hR hS hL hO h1 h2
  have q := hL.2.2 _ _ e1
  exact lv_lload_n hx hb hd rfl q.1 (ih t H locs cls cells slots hR hS hL (List.forall_mem_cons.mpr ⟨q.2, hO⟩) h1 h2)
theorem am_t_aload (X : am_cx p R s m args meth c D cl cs A C3 C4 nw Ts cc mL ret y d mc ms) {k : Nat} {x : Nat} (hd : decode cc pc = .ok (.aload k, 2)) (e1 : am_ld ls k = some (.inr (.inr (x + 1)))) (ih : am_G p l e R s m args below meth c D cl ft cs A ad0 mL rt mc ms r h' (pc + 2) ls (.inr (.inr (x + 1)) :: st) h cb sb) : am_G p l e R s m args below meth c D cl ft cs A ad0 mL rt mc ms r h' pc ls st h cb sb := by
  obtain ⟨hx, hb, hml, hr, hts, hown, hlk, hnm, hK, hA, hRf, hRl, hRc, hRs⟩ := X
  intro t H locs cls cells slots hR hS hL hO h1 h2
  have q := hL.2.2 _ _ e1
  have q2 : x + 1 ≤ h.1.1 := q.2
  have ev : am_cv (ad0 ++ t) (.inr (.inr (x + 1))) = .ref ((ad0 ++ t).getD x 0) := by show va_rf _ = _; rw [am_rv_at (by rw [hR.1]; omega)]; rfl
  have q1 := q.1
  rw [ev] at q1
  have k0 := ih t H locs cls cells slots hR hS hL (List.forall_mem_cons.mpr ⟨q.2, hO⟩) h1 h2
  rw [List.map_cons, ev] at k0
  exact lv_aload hx hb hd q1 k0
theorem am_t_aload_n (X : am_cx p R s m args meth c D cl cs A C3 C4 nw Ts cc mL ret y d mc ms) {k : Fin 4} {x : Nat} (hd : decode cc pc = .ok (.aload_n k, 1)) (e1 : am_ld ls (k : Nat) = some (.inr (.inr (x + 1)))) (ih : am_G p l e R s m args below meth c D cl ft cs A ad0 mL rt mc ms r h' (pc + 1) ls (.inr (.inr (x + 1)) :: st) h cb sb) : am_G p l e R s m args below meth c D cl ft cs A ad0 mL rt mc ms r h' pc ls st h cb sb := by
  obtain ⟨hx, hb, hml, hr, hts, hown, hlk, hnm, hK, hA, hRf, hRl, hRc, hRs⟩ := X
  intro t H locs cls cells slots hR hS hL hO h1 h2
  have q := hL.2.2 _ _ e1
  have q2 : x + 1 ≤ h.1.1 := q.2
  have ev : am_cv (ad0 ++ t) (.inr (.inr (x + 1))) = .ref ((ad0 ++ t).getD x 0) := by show va_rf _ = _; rw [am_rv_at (by rw [hR.1]; omega)]; rfl
  have q1 := q.1
  rw [ev] at q1
  have k0 := ih t H locs cls cells slots hR hS hL (List.forall_mem_cons.mpr ⟨q.2, hO⟩) h1 h2
  rw [List.map_cons, ev] at k0
  exact lv_aload_n hx hb hd rfl q1 k0
theorem am_t_istore (X : am_cx p R s m args meth c D cl cs A C3 C4 nw Ts cc mL ret y d mc ms) {k : Nat} {x : Int} (hd : decode cc pc = .ok (.istore k, 2)) (hk : k < mL) (ih : am_G p l e R s m args below meth c D cl ft cs A ad0 mL rt mc ms r h' (pc + 2) (am_sto (some (.inl x)) ls k) st h cb sb) : am_G p l e R s m args below meth c D cl ft cs A ad0 mL rt mc ms r h' pc ls (.inl x :: st) h cb sb := by
  obtain ⟨hx, hb, hml, hr, hts, hown, hlk, hnm, hK, hA, hRf, hRl, hRc, hRs⟩ := X
  intro t H locs cls cells slots hR hS hL hO h1 h2
  obtain ⟨o1, hO⟩ := List.forall_mem_cons.mp hO
  exact lv_istore hx hb hd hL.has hk rfl (fun cls' hl' => ih t H locs cls' cells slots hR hS (hL.sto1 (v := .inl x) o1 rfl hl') hO h1 h2)
theorem am_t_istore_n (X : am_cx p R s m args meth c D cl cs A C3 C4 nw Ts cc mL ret y d mc ms) {k : Fin 4} {x : Int} (hd : decode cc pc = .ok (.istore_n k, 1)) (hk : (k : Nat) < mL) (ih : am_G p l e R s m args below meth c D cl ft cs A ad0 mL rt mc ms r h' (pc + 1) (am_sto (some (.inl x)) ls (k : Nat)) st h cb sb) : am_G p l e R s m args below meth c D cl ft cs A ad0 mL rt mc ms r h' pc ls (.inl x :: st) h cb sb := by
  obtain ⟨hx, hb, hml, hr, hts, hown, hlk, hnm, hK, hA, hRf, hRl, hRc, hRs⟩ := X
  intro t H locs cls cells slots hR hS hL hO h1 h2
  obtain ⟨o1, hO⟩ := List.forall_mem_cons.mp hO
  exact lv_istore_n hx hb hd rfl hL.has hk rfl (fun cls' hl' => ih t H locs cls' cells slots hR hS (hL.sto1 (v := .inl x) o1 rfl hl') hO h1 h2)
theorem am_t_lstore (X : am_cx p R s m args meth c D cl cs A C3 C4 nw Ts cc mL ret y d mc ms) {k : Nat} {x : Int} (hd : decode cc pc = .ok (.lstore k, 2)) (hk : k + 1 < mL) (ih : am_G p l e R s m args below meth c D cl ft cs A ad0 mL rt mc ms r h' (pc + 2) (am_sto (some (.inr (.inl x))) (am_sto none ls (k + 1)) k) st h cb sb) : am_G p l e R s m args below meth c D cl ft cs A ad0 mL rt mc ms r h' pc ls (.inr (.inl x) :: st) h cb sb := by
  obtain ⟨hx, hb, hml, hr, hts, hown, hlk, hnm, hK, hA, hRf, hRl, hRc, hRs⟩ := X
  intro t H locs cls cells slots hR hS hL hO h1 h2
  obtain ⟨o1, hO⟩ := List.forall_mem_cons.mp hO
  exact lv_lstore hx hb hd hL.has hk rfl (fun cls' hl' => ih t H locs cls' cells slots hR hS (hL.sto2 (v := .inr (.inl x)) o1 rfl hl') hO h1 h2)
theorem am_t_lstore_n (X : am_cx p R s m args meth c D cl cs A C3 C4 nw Ts cc mL ret y d mc ms) {k : Fin 4} {x : Int} (hd : decode cc pc = .ok (.lstore_n k, 1)) (hk : (k : Nat) + 1 < mL) (ih : am_G p l e R s m args below meth c D cl ft cs A ad0 mL rt mc ms r h' (pc + 1) (am_sto (some (.inr (.inl x))) (am_sto none ls ((k : Nat) + 1)) (k : Nat)) st h cb sb) : am_G p l e R s m args below meth c D cl ft cs A ad0 mL rt mc ms r h' pc ls (.inr (.inl x) :: st) h cb sb := by
  obtain ⟨hx, hb, hml, hr, hts, hown, hlk, hnm, hK, hA, hRf, hRl, hRc, hRs⟩ := X
  intro t H locs cls cells slots hR hS hL hO h1 h2
  obtain ⟨o1, hO⟩ := List.forall_mem_cons.mp hO
  exact lv_lstore_n hx hb hd rfl hL.has hk rfl (fun cls' hl' => ih t H locs cls' cells slots hR hS (hL.sto2 (v := .inr (.inl x)) o1 rfl hl') hO h1 h2)
theorem am_t_astore (X : am_cx p R s m args meth c D cl cs A C3 C4 nw Ts cc mL ret y d mc ms) {k : Nat} {x : Nat} (hd : decode cc pc = .ok (.astore k, 2)) (hk : k < mL) (ih : am_G p l e R s m args below meth c D cl ft cs A ad0 mL rt mc ms r h' (pc + 2) (am_sto (some (.inr (.inr (x + 1)))) ls k) st h cb sb) : am_G p l e R s m args below meth c D cl ft cs A ad0 mL rt mc ms r h' pc ls (.inr (.inr (x + 1)) :: st) h cb sb := by
  obtain ⟨hx, hb, hml, hr, hts, hown, hlk, hnm, hK, hA, hRf, hRl, hRc, hRs⟩ := X
  intro t H locs cls cells slots hR hS hL hO h1 h2
  obtain ⟨o1, hO⟩ := List.forall_mem_cons.mp hO
  have q2 : x + 1 ≤ h.1.1 := o1
  have ev : am_cv (ad0 ++ t) (.inr (.inr (x + 1))) = .ref ((ad0 ++ t).getD x 0) := by show va_rf _ = _; rw [am_rv_at (by rw [hR.1]; omega)]; rfl
  rw [List.map_cons, ev]
  exact lv_astore hx hb hd hL.has hk rfl (fun cls' hl' => ih t H locs cls' cells slots hR hS (hL.sto1 (v := .inr (.inr (x + 1))) o1 (by rw [ev]) hl') hO h1 h2)
theorem am_t_astore_n (X : am_cx p R s m args meth c D cl cs A C3 C4 nw Ts cc mL ret y d mc ms) {k : Fin 4} {x : Nat} (hd : decode cc pc = .ok (.astore_n k, 1)) (hk : (k : Nat) < mL) (ih : am_G p l e R s m args below meth c D cl ft cs A ad0 mL rt mc ms r h' (pc + 1) (am_sto (some (.inr (.inr (x + 1)))) ls (k : Nat)) st h cb sb) : am_G p l e R s m args below meth c D cl ft cs A ad0 mL rt mc ms r h' pc ls (.inr (.inr (x + 1)) :: st) h cb sb := by
  obtain ⟨hx, hb, hml, hr, hts, hown, hlk, hnm, hK, hA, hRf, hRl, hRc, hRs⟩ := X
  intro t H locs cls cells slots hR hS hL hO h1 h2
  obtain ⟨o1, hO⟩ := List.forall_mem_cons.mp hO
  have q2 : x + 1 ≤ h.1.1 := o1
  have ev : am_cv (ad0 ++ t) (.inr (.inr (x + 1))) = .ref ((ad0 ++ t).getD x 0) := by show va_rf _ = _; rw [am_rv_at (by rw [hR.1]; omega)]; rfl
  rw [List.map_cons, ev]
  exact lv_astore_n hx hb hd rfl hL.has hk rfl (fun cls' hl' => ih t H locs cls' cells slots hR hS (hL.sto1 (v := .inr (.inr (x + 1))) o1 (by rw [ev]) hl') hO h1 h2)
theorem am_t_iinc (X : am_cx p R s m args meth c D cl cs A C3 C4 nw Ts cc mL ret y d mc ms) {k : Nat} {n x : Int} (hd : decode cc pc = .ok (.iinc k n, 3)) (hk : k < mL) (e1 : am_ld ls k = some (.inl x)) (ih : am_G p l e R s m args below meth c D cl ft cs A ad0 mL rt mc ms r h' (pc + 3) (am_sto (some (.inl (w32 (x + n)))) ls k) st h cb sb) : am_G p l e R s m args below meth c D cl ft cs A ad0 mL rt mc ms r h' pc ls st h cb sb := by
  obtain ⟨hx, hb, hml, hr, hts, hown, hlk, hnm, hK, hA, hRf, hRl, hRc, hRs⟩ := X
  intro t H locs cls cells slots hR hS hL hO h1 h2
  have hm := am_ll_mem (ad := ad0 ++ t) e1
  obtain ⟨j, hj⟩ := List.getElem?_of_mem hm
  exact lv_iinc hx hb hd hL.has hj (v := Int32.ofInt (w32 (x + n))) (by rw [am_of32, Int32.ofInt_add]) hk rfl (fun cls' hl' => ih t H locs cls' cells slots hR hS (hL.sto1 (v := .inl (w32 (x + n))) (w32_rng _) rfl hl') hO h1 h2)
theorem am_t_iconst (X : am_cx p R s m args meth c D cl cs A C3 C4 nw Ts cc mL ret y d mc ms) {n : Int} {v : Int} (hd : decode cc pc = .ok (.iconst n, 1)) (hv : Int32.ofInt n = Int32.ofInt v) (hi : am_i32 v) (ih : am_G p l e R s m args below meth c D cl ft cs A ad0 mL rt mc ms r h' (pc + 1) ls (.inl v :: st) h cb sb) : am_G p l e R s m args below meth c D cl ft cs A ad0 mL rt mc ms r h' pc ls st h cb sb := by
  obtain ⟨hx, hb, hml, hr, hts, hown, hlk, hnm, hK, hA, hRf, hRl, hRc, hRs⟩ := X
  intro t H locs cls cells slots hR hS hL hO h1 h2
  exact lv_iconst hx hb hd hv (ih t H locs cls cells slots hR hS hL (List.forall_mem_cons.mpr ⟨hi, hO⟩) h1 h2)
theorem am_t_bipush (X : am_cx p R s m args meth c D cl cs A C3 C4 nw Ts cc mL ret y d mc ms) {n : Int} {v : Int} (hd : decode cc pc = .ok (.bipush n, 2)) (hv : (Int8.ofInt n).toInt32 = Int32.ofInt v) (hi : am_i32 v) (ih : am_G p l e R s m args below meth c D cl ft cs A ad0 mL rt mc ms r h' (pc + 2) ls (.inl v :: st) h cb sb) : am_G p l e R s m args below meth c D cl ft cs A ad0 mL rt mc ms r h' pc ls st h cb sb := by
  obtain ⟨hx, hb, hml, hr, hts, hown, hlk, hnm, hK, hA, hRf, hRl, hRc, hRs⟩ := X
  intro t H locs cls cells slots hR hS hL hO h1 h2
  exact lv_bipush hx hb hd hv (ih t H locs cls cells slots hR hS hL (List.forall_mem_cons.mpr ⟨hi, hO⟩) h1 h2)
theorem am_t_sipush (X : am_cx p R s m args meth c D cl cs A C3 C4 nw Ts cc mL ret y d mc ms) {n : Int} {v : Int} (hd : decode cc pc = .ok (.sipush n, 3)) (hv : (Int16.ofInt n).toInt32 = Int32.ofInt v) (hi : am_i32 v) (ih : am_G p l e R s m args below meth c D cl ft cs A ad0 mL rt mc ms r h' (pc + 3) ls (.inl v :: st) h cb sb) : am_G p l e R s m args below meth c D cl ft cs A ad0 mL rt mc ms r h' pc ls st h cb sb := by
  obtain ⟨hx, hb, hml, hr, hts, hown, hlk, hnm, hK, hA, hRf, hRl, hRc, hRs⟩ := X
  intro t H locs cls cells slots hR hS hL hO h1 h2
  exact lv_sipush hx hb hd hv (ih t H locs cls cells slots hR hS hL (List.forall_mem_cons.mpr ⟨hi, hO⟩) h1 h2)
theorem am_t_lconst (X : am_cx p R s m args meth c D cl cs A C3 C4 nw Ts cc mL ret y d mc ms) {n : Fin 2} {v : Int} (hd : decode cc pc = .ok (.lconst n, 1)) (hv : Int64.ofNat (n : Nat) = Int64.ofInt v) (hi : am_i64 v) (ih : am_G p l e R s m args below meth c D cl ft cs A ad0 mL rt mc ms r h' (pc + 1) ls (.inr (.inl v) :: st) h cb sb) : am_G p l e R s m args below meth c D cl ft cs A ad0 mL rt mc ms r h' pc ls st h cb sb := by
  obtain ⟨hx, hb, hml, hr, hts, hown, hlk, hnm, hK, hA, hRf, hRl, hRc, hRs⟩ := X
  intro t H locs cls cells slots hR hS hL hO h1 h2
  exact lv_lconst hx hb hd hv (ih t H locs cls cells slots hR hS hL (List.forall_mem_cons.mpr ⟨hi, hO⟩) h1 h2)
theorem am_t_ldc (X : am_cx p R s m args meth c D cl cs A C3 C4 nw Ts cc mL ret y d mc ms) {k : Nat} {v : Int} (hd : decode cc pc = .ok (.ldc k, 2)) (hv : Cond.constant y.cls k (Int32.ofInt v) ∈ Ts) (hi : am_i32 v) (ih : am_G p l e R s m args below meth c D cl ft cs A ad0 mL rt mc ms r h' (pc + 2) ls (.inl v :: st) h cb sb) : am_G p l e R s m args below meth c D cl ft cs A ad0 mL rt mc ms r h' pc ls st h cb sb := by
  obtain ⟨hx, hb, hml, hr, hts, hown, hlk, hnm, hK, hA, hRf, hRl, hRc, hRs⟩ := X
  intro t H locs cls cells slots hR hS hL hO h1 h2
  exact lv_ldc hx hb hown (hts _ hv) hd (ih t H locs cls cells slots hR hS hL (List.forall_mem_cons.mpr ⟨hi, hO⟩) h1 h2)
theorem am_t_ldcw (X : am_cx p R s m args meth c D cl cs A C3 C4 nw Ts cc mL ret y d mc ms) {k : Nat} {v : Int} (hd : decode cc pc = .ok (.ldc_w k, 3)) (hv : Cond.constant y.cls k (Int32.ofInt v) ∈ Ts) (hi : am_i32 v) (ih : am_G p l e R s m args below meth c D cl ft cs A ad0 mL rt mc ms r h' (pc + 3) ls (.inl v :: st) h cb sb) : am_G p l e R s m args below meth c D cl ft cs A ad0 mL rt mc ms r h' pc ls st h cb sb := by
  obtain ⟨hx, hb, hml, hr, hts, hown, hlk, hnm, hK, hA, hRf, hRl, hRc, hRs⟩ := X
  intro t H locs cls cells slots hR hS hL hO h1 h2
  exact lv_ldcw hx hb hown (hts _ hv) hd (ih t H locs cls cells slots hR hS hL (List.forall_mem_cons.mpr ⟨hi, hO⟩) h1 h2)
theorem am_t_ldc2 (X : am_cx p R s m args meth c D cl cs A C3 C4 nw Ts cc mL ret y d mc ms) {k : Nat} {v : Int} (hd : decode cc pc = .ok (.ldc2_w k, 3)) (hv : Cond.constantLong y.cls k (Int64.ofInt v) ∈ Ts) (hi : am_i64 v) (ih : am_G p l e R s m args below meth c D cl ft cs A ad0 mL rt mc ms r h' (pc + 3) ls (.inr (.inl v) :: st) h cb sb) : am_G p l e R s m args below meth c D cl ft cs A ad0 mL rt mc ms r h' pc ls st h cb sb := by
  obtain ⟨hx, hb, hml, hr, hts, hown, hlk, hnm, hK, hA, hRf, hRl, hRc, hRs⟩ := X
  intro t H locs cls cells slots hR hS hL hO h1 h2
  exact lv_ldc2 hx hb hown (hts _ hv) hd (ih t H locs cls cells slots hR hS hL (List.forall_mem_cons.mpr ⟨hi, hO⟩) h1 h2)
theorem am_t_iadd (X : am_cx p R s m args meth c D cl cs A C3 C4 nw Ts cc mL ret y d mc ms) {a b : Int} (hd : decode cc pc = .ok (.iadd, 1)) (ih : am_G p l e R s m args below meth c D cl ft cs A ad0 mL rt mc ms r h' (pc + 1) ls (.inl (w32 (a + b)) :: st) h cb sb) : am_G p l e R s m args below meth c D cl ft cs A ad0 mL rt mc ms r h' pc ls (.inl b :: .inl a :: st) h cb sb := by
  obtain ⟨hx, hb, hml, hr, hts, hown, hlk, hnm, hK, hA, hRf, hRl, hRc, hRs⟩ := X
  intro t H locs cls cells slots hR hS hL hO h1 h2
  obtain ⟨ob, hO⟩ := List.forall_mem_cons.mp hO
  obtain ⟨oa, hO⟩ := List.forall_mem_cons.mp hO
  have k0 := ih t H locs cls cells slots hR hS hL (List.forall_mem_cons.mpr ⟨w32_rng _, hO⟩) h1 h2
  have ev : Int32.ofInt a + Int32.ofInt b = Int32.ofInt (w32 (a + b)) := by rw [am_of32, Int32.ofInt_add]
  have e2 : am_cv (ad0 ++ t) (.inl (w32 (a + b))) = .int (Int32.ofInt a + Int32.ofInt b) := congrArg Value.int ev.symm
  rw [List.map_cons, e2] at k0
  exact lv_iadd hx hb hd k0
theorem am_t_isub (X : am_cx p R s m args meth c D cl cs A C3 C4 nw Ts cc mL ret y d mc ms) {a b : Int} (hd : decode cc pc = .ok (.isub, 1)) (ih : am_G p l e R s m args below meth c D cl ft cs A ad0 mL rt mc ms r h' (pc + 1) ls (.inl (w32 (a - b)) :: st) h cb sb) : am_G p l e R s m args below meth c D cl ft cs A ad0 mL rt mc ms r h' pc ls (.inl b :: .inl a :: st) h cb sb := by
  obtain ⟨hx, hb, hml, hr, hts, hown, hlk, hnm, hK, hA, hRf, hRl, hRc, hRs⟩ := X
  intro t H locs cls cells slots hR hS hL hO h1 h2
  obtain ⟨ob, hO⟩ := List.forall_mem_cons.mp hO
  obtain ⟨oa, hO⟩ := List.forall_mem_cons.mp hO
  have k0 := ih t H locs cls cells slots hR hS hL (List.forall_mem_cons.mpr ⟨w32_rng _, hO⟩) h1 h2
  have ev : Int32.ofInt a - Int32.ofInt b = Int32.ofInt (w32 (a - b)) := by rw [am_of32, Int32.ofInt_sub]
  have e2 : am_cv (ad0 ++ t) (.inl (w32 (a - b))) = .int (Int32.ofInt a - Int32.ofInt b) := congrArg Value.int ev.symm
  rw [List.map_cons, e2] at k0
  exact lv_isub hx hb hd k0
theorem am_t_imul (X : am_cx p R s m args meth c D cl cs A C3 C4 nw Ts cc mL ret y d mc ms) {a b : Int} (hd : decode cc pc = .ok (.imul, 1)) (ih : am_G p l e R s m args below meth c D cl ft cs A ad0 mL rt mc ms r h' (pc + 1) ls (.inl (w32 (a * b)) :: st) h cb sb) : am_G p l e R s m args below meth c D cl ft cs A ad0 mL rt mc ms r h' pc ls (.inl b :: .inl a :: st) h cb sb := by
  obtain ⟨hx, hb, hml, hr, hts, hown, hlk, hnm, hK, hA, hRf, hRl, hRc, hRs⟩ := X
  intro t H locs cls cells slots hR hS hL hO h1 h2
  obtain ⟨ob, hO⟩ := List.forall_mem_cons.mp hO
  obtain ⟨oa, hO⟩ := List.forall_mem_cons.mp hO
  have k0 := ih t H locs cls cells slots hR hS hL (List.forall_mem_cons.mpr ⟨w32_rng _, hO⟩) h1 h2
  have ev : Int32.ofInt a * Int32.ofInt b = Int32.ofInt (w32 (a * b)) := by rw [am_of32, Int32.ofInt_mul]
  have e2 : am_cv (ad0 ++ t) (.inl (w32 (a * b))) = .int (Int32.ofInt a * Int32.ofInt b) := congrArg Value.int ev.symm
  rw [List.map_cons, e2] at k0
  exact lv_imul hx hb hd k0
theorem am_t_iand (X : am_cx p R s m args meth c D cl cs A C3 C4 nw Ts cc mL ret y d mc ms) {a b : Int} (hd : decode cc pc = .ok (.iand, 1)) (ih : am_G p l e R s m args below meth c D cl ft cs A ad0 mL rt mc ms r h' (pc + 1) ls (.inl (i_and a b) :: st) h cb sb) : am_G p l e R s m args below meth c D cl ft cs A ad0 mL rt mc ms r h' pc ls (.inl b :: .inl a :: st) h cb sb := by
  obtain ⟨hx, hb, hml, hr, hts, hown, hlk, hnm, hK, hA, hRf, hRl, hRc, hRs⟩ := X
  intro t H locs cls cells slots hR hS hL hO h1 h2
  obtain ⟨ob, hO⟩ := List.forall_mem_cons.mp hO
  obtain ⟨oa, hO⟩ := List.forall_mem_cons.mp hO
  have k0 := ih t H locs cls cells slots hR hS hL (List.forall_mem_cons.mpr ⟨am_r32 _, hO⟩) h1 h2
  have ev : Int32.ofInt a &&& Int32.ofInt b = Int32.ofInt (i_and a b) := (Int32.ofInt_toInt _).symm
  have e2 : am_cv (ad0 ++ t) (.inl (i_and a b)) = .int (Int32.ofInt a &&& Int32.ofInt b) := congrArg Value.int ev.symm
  rw [List.map_cons, e2] at k0
  exact lv_iand hx hb hd k0
theorem am_t_ior (X : am_cx p R s m args meth c D cl cs A C3 C4 nw Ts cc mL ret y d mc ms) {a b : Int} (hd : decode cc pc = .ok (.ior, 1)) (ih : am_G p l e R s m args below meth c D cl ft cs A ad0 mL rt mc ms r h' (pc + 1) ls (.inl (i_or a b) :: st) h cb sb) : am_G p l e R s m args below meth c D cl ft cs A ad0 mL rt mc ms r h' pc ls (.inl b :: .inl a :: st) h cb sb := by
  obtain ⟨hx, hb, hml, hr, hts, hown, hlk, hnm, hK, hA, hRf, hRl, hRc, hRs⟩ := X
  intro t H locs cls cells slots hR hS hL hO h1 h2
  obtain ⟨ob, hO⟩ := List.forall_mem_cons.mp hO
  obtain ⟨oa, hO⟩ := List.forall_mem_cons.mp hO
  have k0 := ih t H locs cls cells slots hR hS hL (List.forall_mem_cons.mpr ⟨am_r32 _, hO⟩) h1 h2
  have ev : Int32.ofInt a ||| Int32.ofInt b = Int32.ofInt (i_or a b) := (Int32.ofInt_toInt _).symm
  have e2 : am_cv (ad0 ++ t) (.inl (i_or a b)) = .int (Int32.ofInt a ||| Int32.ofInt b) := congrArg Value.int ev.symm
  rw [List.map_cons, e2] at k0
  exact lv_ior hx hb hd k0
theorem am_t_ixor (X : am_cx p R s m args meth c D cl cs A C3 C4 nw Ts cc mL ret y d mc ms) {a b : Int} (hd : decode cc pc = .ok (.ixor, 1)) (ih : am_G p l e R s m args below meth c D cl ft cs A ad0 mL rt mc ms r h' (pc + 1) ls (.inl (i_xor a b) :: st) h cb sb) : am_G p l e R s m args below meth c D cl ft cs A ad0 mL rt mc ms r h' pc ls (.inl b :: .inl a :: st) h cb sb := by
  obtain ⟨hx, hb, hml, hr, hts, hown, hlk, hnm, hK, hA, hRf, hRl, hRc, hRs⟩ := X
  intro t H locs cls cells slots hR hS hL hO h1 h2
  obtain ⟨ob, hO⟩ := List.forall_mem_cons.mp hO
  obtain ⟨oa, hO⟩ := List.forall_mem_cons.mp hO
  have k0 := ih t H locs cls cells slots hR hS hL (List.forall_mem_cons.mpr ⟨am_r32 _, hO⟩) h1 h2
  have ev : Int32.ofInt a ^^^ Int32.ofInt b = Int32.ofInt (i_xor a b) := (Int32.ofInt_toInt _).symm
  have e2 : am_cv (ad0 ++ t) (.inl (i_xor a b)) = .int (Int32.ofInt a ^^^ Int32.ofInt b) := congrArg Value.int ev.symm
  rw [List.map_cons, e2] at k0
  exact lv_ixor hx hb hd k0
theorem am_t_ishl (X : am_cx p R s m args meth c D cl cs A C3 C4 nw Ts cc mL ret y d mc ms) {a b : Int} (hd : decode cc pc = .ok (.ishl, 1)) (ih : am_G p l e R s m args below meth c D cl ft cs A ad0 mL rt mc ms r h' (pc + 1) ls (.inl (i_shl a b) :: st) h cb sb) : am_G p l e R s m args below meth c D cl ft cs A ad0 mL rt mc ms r h' pc ls (.inl b :: .inl a :: st) h cb sb := by
  obtain ⟨hx, hb, hml, hr, hts, hown, hlk, hnm, hK, hA, hRf, hRl, hRc, hRs⟩ := X
  intro t H locs cls cells slots hR hS hL hO h1 h2
  obtain ⟨ob, hO⟩ := List.forall_mem_cons.mp hO
  obtain ⟨oa, hO⟩ := List.forall_mem_cons.mp hO
  have k0 := ih t H locs cls cells slots hR hS hL (List.forall_mem_cons.mpr ⟨am_r32 _, hO⟩) h1 h2
  have ev : Int32.ofInt a <<< (Int32.ofInt b &&& 31) = Int32.ofInt (i_shl a b) := (Int32.ofInt_toInt _).symm
  have e2 : am_cv (ad0 ++ t) (.inl (i_shl a b)) = .int (Int32.ofInt a <<< (Int32.ofInt b &&& 31)) := congrArg Value.int ev.symm
  rw [List.map_cons, e2] at k0
  exact lv_ishl hx hb hd k0
theorem am_t_ishr (X : am_cx p R s m args meth c D cl cs A C3 C4 nw Ts cc mL ret y d mc ms) {a b : Int} (hd : decode cc pc = .ok (.ishr, 1)) (ih : am_G p l e R s m args below meth c D cl ft cs A ad0 mL rt mc ms r h' (pc + 1) ls (.inl (i_shr a b) :: st) h cb sb) : am_G p l e R s m args below meth c D cl ft cs A ad0 mL rt mc ms r h' pc ls (.inl b :: .inl a :: st) h cb sb := by
  obtain ⟨hx, hb, hml, hr, hts, hown, hlk, hnm, hK, hA, hRf, hRl, hRc, hRs⟩ := X
  intro t H locs cls cells slots hR hS hL hO h1 h2
  obtain ⟨ob, hO⟩ := List.forall_mem_cons.mp hO
  obtain ⟨oa, hO⟩ := List.forall_mem_cons.mp hO
  have k0 := ih t H locs cls cells slots hR hS hL (List.forall_mem_cons.mpr ⟨am_r32 _, hO⟩) h1 h2
  have ev : Int32.ofInt a >>> (Int32.ofInt b &&& 31) = Int32.ofInt (i_shr a b) := (Int32.ofInt_toInt _).symm
  have e2 : am_cv (ad0 ++ t) (.inl (i_shr a b)) = .int (Int32.ofInt a >>> (Int32.ofInt b &&& 31)) := congrArg Value.int ev.symm
  rw [List.map_cons, e2] at k0
  exact lv_ishr hx hb hd k0
theorem am_t_idiv (X : am_cx p R s m args meth c D cl cs A C3 C4 nw Ts cc mL ret y d mc ms) {a b : Int} (hd : decode cc pc = .ok (.idiv, 1)) (hne : ¬ b = 0) (ih : am_G p l e R s m args below meth c D cl ft cs A ad0 mL rt mc ms r h' (pc + 1) ls (.inl (w32 (Int.tdiv a b)) :: st) h cb sb) : am_G p l e R s m args below meth c D cl ft cs A ad0 mL rt mc ms r h' pc ls (.inl b :: .inl a :: st) h cb sb := by
  obtain ⟨hx, hb, hml, hr, hts, hown, hlk, hnm, hK, hA, hRf, hRl, hRc, hRs⟩ := X
  intro t H locs cls cells slots hR hS hL hO h1 h2
  obtain ⟨ob, hO⟩ := List.forall_mem_cons.mp hO
  obtain ⟨oa, hO⟩ := List.forall_mem_cons.mp hO
  have k0 := ih t H locs cls cells slots hR hS hL (List.forall_mem_cons.mpr ⟨w32_rng _, hO⟩) h1 h2
  have ev : Int32.ofInt a / Int32.ofInt b = Int32.ofInt (w32 (Int.tdiv a b)) := am_div32 oa ob
  have e2 : am_cv (ad0 ++ t) (.inl (w32 (Int.tdiv a b))) = .int (Int32.ofInt a / Int32.ofInt b) := congrArg Value.int ev.symm
  rw [List.map_cons, e2] at k0
  exact lv_idiv hx hb hd (fun z => hne ((am_eq32 ob am_0).mp z)) k0
theorem am_t_irem (X : am_cx p R s m args meth c D cl cs A C3 C4 nw Ts cc mL ret y d mc ms) {a b : Int} (hd : decode cc pc = .ok (.irem, 1)) (hne : ¬ b = 0) (ih : am_G p l e R s m args below meth c D cl ft cs A ad0 mL rt mc ms r h' (pc + 1) ls (.inl (w32 (Int.tmod a b)) :: st) h cb sb) : am_G p l e R s m args below meth c D cl ft cs A ad0 mL rt mc ms r h' pc ls (.inl b :: .inl a :: st) h cb sb := by
  obtain ⟨hx, hb, hml, hr, hts, hown, hlk, hnm, hK, hA, hRf, hRl, hRc, hRs⟩ := X
  intro t H locs cls cells slots hR hS hL hO h1 h2
  obtain ⟨ob, hO⟩ := List.forall_mem_cons.mp hO
  obtain ⟨oa, hO⟩ := List.forall_mem_cons.mp hO
  have k0 := ih t H locs cls cells slots hR hS hL (List.forall_mem_cons.mpr ⟨w32_rng _, hO⟩) h1 h2
  have ev : Int32.ofInt a - Int32.ofInt a / Int32.ofInt b * Int32.ofInt b = Int32.ofInt (w32 (Int.tmod a b)) := am_rem32 oa ob
  have e2 : am_cv (ad0 ++ t) (.inl (w32 (Int.tmod a b))) = .int (Int32.ofInt a - Int32.ofInt a / Int32.ofInt b * Int32.ofInt b) := congrArg Value.int ev.symm
  rw [List.map_cons, e2] at k0
  exact lv_irem hx hb hd (fun z => hne ((am_eq32 ob am_0).mp z)) k0
theorem am_t_iushr (X : am_cx p R s m args meth c D cl cs A C3 C4 nw Ts cc mL ret y d mc ms) {a b : Int} (hd : decode cc pc = .ok (.iushr, 1)) (ih : am_G p l e R s m args below meth c D cl ft cs A ad0 mL rt mc ms r h' (pc + 1) ls (.inl (i_ushr a b) :: st) h cb sb) : am_G p l e R s m args below meth c D cl ft cs A ad0 mL rt mc ms r h' pc ls (.inl b :: .inl a :: st) h cb sb := by
  obtain ⟨hx, hb, hml, hr, hts, hown, hlk, hnm, hK, hA, hRf, hRl, hRc, hRs⟩ := X
  intro t H locs cls cells slots hR hS hL hO h1 h2
  obtain ⟨ob, hO⟩ := List.forall_mem_cons.mp hO
  obtain ⟨oa, hO⟩ := List.forall_mem_cons.mp hO
  exact lv_iushr hx hb hd (v := Int32.ofInt (i_ushr a b)) (Int32.ofInt_toInt _).symm (ih t H locs cls cells slots hR hS hL (List.forall_mem_cons.mpr ⟨am_r32 _, hO⟩) h1 h2)
theorem am_t_ladd (X : am_cx p R s m args meth c D cl cs A C3 C4 nw Ts cc mL ret y d mc ms) {a b : Int} (hd : decode cc pc = .ok (.ladd, 1)) (ih : am_G p l e R s m args below meth c D cl ft cs A ad0 mL rt mc ms r h' (pc + 1) ls (.inr (.inl (w64 (a + b))) :: st) h cb sb) : am_G p l e R s m args below meth c D cl ft cs A ad0 mL rt mc ms r h' pc ls (.inr (.inl b) :: .inr (.inl a) :: st) h cb sb := by
  obtain ⟨hx, hb, hml, hr, hts, hown, hlk, hnm, hK, hA, hRf, hRl, hRc, hRs⟩ := X
  intro t H locs cls cells slots hR hS hL hO h1 h2
  obtain ⟨ob, hO⟩ := List.forall_mem_cons.mp hO
  obtain ⟨oa, hO⟩ := List.forall_mem_cons.mp hO
  have k0 := ih t H locs cls cells slots hR hS hL (List.forall_mem_cons.mpr ⟨w64_rng _, hO⟩) h1 h2
  have ev : Int64.ofInt a + Int64.ofInt b = Int64.ofInt (w64 (a + b)) := by rw [am_of64, Int64.ofInt_add]
  have e2 : am_cv (ad0 ++ t) (.inr (.inl (w64 (a + b)))) = .long (Int64.ofInt a + Int64.ofInt b) := congrArg Value.long ev.symm
  rw [List.map_cons, e2] at k0
  exact lv_ladd hx hb hd k0
theorem am_t_lsub (X : am_cx p R s m args meth c D cl cs A C3 C4 nw Ts cc mL ret y d mc ms) {a b : Int} (hd : decode cc pc = .ok (.lsub, 1)) (ih : am_G p l e R s m args below meth c D cl ft cs A ad0 mL rt mc ms r h' (pc + 1) ls (.inr (.inl (w64 (a - b))) :: st) h cb sb) : am_G p l e R s m args below meth c D cl ft cs A ad0 mL rt mc ms r h' pc ls (.inr (.inl b) :: .inr (.inl a) :: st) h cb sb := by
  obtain ⟨hx, hb, hml, hr, hts, hown, hlk, hnm, hK, hA, hRf, hRl, hRc, hRs⟩ := X
  intro t H locs cls cells slots hR hS hL hO h1 h2
  obtain ⟨ob, hO⟩ := List.forall_mem_cons.mp hO
  obtain ⟨oa, hO⟩ := List.forall_mem_cons.mp hO
  have k0 := ih t H locs cls cells slots hR hS hL (List.forall_mem_cons.mpr ⟨w64_rng _, hO⟩) h1 h2
  have ev : Int64.ofInt a - Int64.ofInt b = Int64.ofInt (w64 (a - b)) := by rw [am_of64, Int64.ofInt_sub]
  have e2 : am_cv (ad0 ++ t) (.inr (.inl (w64 (a - b)))) = .long (Int64.ofInt a - Int64.ofInt b) := congrArg Value.long ev.symm
  rw [List.map_cons, e2] at k0
  exact lv_lsub hx hb hd k0
theorem am_t_lmul (X : am_cx p R s m args meth c D cl cs A C3 C4 nw Ts cc mL ret y d mc ms) {a b : Int} (hd : decode cc pc = .ok (.lmul, 1)) (ih : am_G p l e R s m args below meth c D cl ft cs A ad0 mL rt mc ms r h' (pc + 1) ls (.inr (.inl (w64 (a * b))) :: st) h cb sb) : am_G p l e R s m args below meth c D cl ft cs A ad0 mL rt mc ms r h' pc ls (.inr (.inl b) :: .inr (.inl a) :: st) h cb sb := by
  obtain ⟨hx, hb, hml, hr, hts, hown, hlk, hnm, hK, hA, hRf, hRl, hRc, hRs⟩ := X
  intro t H locs cls cells slots hR hS hL hO h1 h2
  obtain ⟨ob, hO⟩ := List.forall_mem_cons.mp hO
  obtain ⟨oa, hO⟩ := List.forall_mem_cons.mp hO
  have k0 := ih t H locs cls cells slots hR hS hL (List.forall_mem_cons.mpr ⟨w64_rng _, hO⟩) h1 h2
  have ev : Int64.ofInt a * Int64.ofInt b = Int64.ofInt (w64 (a * b)) := by rw [am_of64, Int64.ofInt_mul]
  have e2 : am_cv (ad0 ++ t) (.inr (.inl (w64 (a * b)))) = .long (Int64.ofInt a * Int64.ofInt b) := congrArg Value.long ev.symm
  rw [List.map_cons, e2] at k0
  exact lv_lmul hx hb hd k0
theorem am_t_land (X : am_cx p R s m args meth c D cl cs A C3 C4 nw Ts cc mL ret y d mc ms) {a b : Int} (hd : decode cc pc = .ok (.land, 1)) (ih : am_G p l e R s m args below meth c D cl ft cs A ad0 mL rt mc ms r h' (pc + 1) ls (.inr (.inl (l_and a b)) :: st) h cb sb) : am_G p l e R s m args below meth c D cl ft cs A ad0 mL rt mc ms r h' pc ls (.inr (.inl b) :: .inr (.inl a) :: st) h cb sb := by
  obtain ⟨hx, hb, hml, hr, hts, hown, hlk, hnm, hK, hA, hRf, hRl, hRc, hRs⟩ := X
  intro t H locs cls cells slots hR hS hL hO h1 h2
  obtain ⟨ob, hO⟩ := List.forall_mem_cons.mp hO
  obtain ⟨oa, hO⟩ := List.forall_mem_cons.mp hO
  have k0 := ih t H locs cls cells slots hR hS hL (List.forall_mem_cons.mpr ⟨am_r64 _, hO⟩) h1 h2
  have ev : Int64.ofInt a &&& Int64.ofInt b = Int64.ofInt (l_and a b) := (Int64.ofInt_toInt _).symm
  have e2 : am_cv (ad0 ++ t) (.inr (.inl (l_and a b))) = .long (Int64.ofInt a &&& Int64.ofInt b) := congrArg Value.long ev.symm
  rw [List.map_cons, e2] at k0
  exact lv_land hx hb hd k0
theorem am_t_lor (X : am_cx p R s m args meth c D cl cs A C3 C4 nw Ts cc mL ret y d mc ms) {a b : Int} (hd : decode cc pc = .ok (.lor, 1)) (ih : am_G p l e R s m args below meth c D cl ft cs A ad0 mL rt mc ms r h' (pc + 1) ls (.inr (.inl (l_or a b)) :: st) h cb sb) : am_G p l e R s m args below meth c D cl ft cs A ad0 mL rt mc ms r h' pc ls (.inr (.inl b) :: .inr (.inl a) :: st) h cb sb := by
  obtain ⟨hx, hb, hml, hr, hts, hown, hlk, hnm, hK, hA, hRf, hRl, hRc, hRs⟩ := X
  intro t H locs cls cells slots hR hS hL hO h1 h2
  obtain ⟨ob, hO⟩ := List.forall_mem_cons.mp hO
  obtain ⟨oa, hO⟩ := List.forall_mem_cons.mp hO
  have k0 := ih t H locs cls cells slots hR hS hL (List.forall_mem_cons.mpr ⟨am_r64 _, hO⟩) h1 h2
  have ev : Int64.ofInt a ||| Int64.ofInt b = Int64.ofInt (l_or a b) := (Int64.ofInt_toInt _).symm
  have e2 : am_cv (ad0 ++ t) (.inr (.inl (l_or a b))) = .long (Int64.ofInt a ||| Int64.ofInt b) := congrArg Value.long ev.symm
  rw [List.map_cons, e2] at k0
  exact lv_lor hx hb hd k0
theorem am_t_ldiv (X : am_cx p R s m args meth c D cl cs A C3 C4 nw Ts cc mL ret y d mc ms) {a b : Int} (hd : decode cc pc = .ok (.ldiv, 1)) (hne : ¬ b = 0) (ih : am_G p l e R s m args below meth c D cl ft cs A ad0 mL rt mc ms r h' (pc + 1) ls (.inr (.inl (w64 (Int.tdiv a b))) :: st) h cb sb) : am_G p l e R s m args below meth c D cl ft cs A ad0 mL rt mc ms r h' pc ls (.inr (.inl b) :: .inr (.inl a) :: st) h cb sb := by
  obtain ⟨hx, hb, hml, hr, hts, hown, hlk, hnm, hK, hA, hRf, hRl, hRc, hRs⟩ := X
  intro t H locs cls cells slots hR hS hL hO h1 h2
  obtain ⟨ob, hO⟩ := List.forall_mem_cons.mp hO
  obtain ⟨oa, hO⟩ := List.forall_mem_cons.mp hO
  have k0 := ih t H locs cls cells slots hR hS hL (List.forall_mem_cons.mpr ⟨w64_rng _, hO⟩) h1 h2
  have ev : Int64.ofInt a / Int64.ofInt b = Int64.ofInt (w64 (Int.tdiv a b)) := am_div64 oa ob
  have e2 : am_cv (ad0 ++ t) (.inr (.inl (w64 (Int.tdiv a b)))) = .long (Int64.ofInt a / Int64.ofInt b) := congrArg Value.long ev.symm
  rw [List.map_cons, e2] at k0
  exact lv_ldiv hx hb hd (fun z => hne ((am_eq64 ob (by unfold am_i64; omega)).mp z)) k0
theorem am_t_lrem (X : am_cx p R s m args meth c D cl cs A C3 C4 nw Ts cc mL ret y d mc ms) {a b : Int} (hd : decode cc pc = .ok (.lrem, 1)) (hne : ¬ b = 0) (ih : am_G p l e R s m args below meth c D cl ft cs A ad0 mL rt mc ms r h' (pc + 1) ls (.inr (.inl (w64 (Int.tmod a b))) :: st) h cb sb) : am_G p l e R s m args below meth c D cl ft cs A ad0 mL rt mc ms r h' pc ls (.inr (.inl b) :: .inr (.inl a) :: st) h cb sb := by
  obtain ⟨hx, hb, hml, hr, hts, hown, hlk, hnm, hK, hA, hRf, hRl, hRc, hRs⟩ := X
  intro t H locs cls cells slots hR hS hL hO h1 h2
  obtain ⟨ob, hO⟩ := List.forall_mem_cons.mp hO
  obtain ⟨oa, hO⟩ := List.forall_mem_cons.mp hO
  have k0 := ih t H locs cls cells slots hR hS hL (List.forall_mem_cons.mpr ⟨w64_rng _, hO⟩) h1 h2
  have ev : Int64.ofInt a - Int64.ofInt a / Int64.ofInt b * Int64.ofInt b = Int64.ofInt (w64 (Int.tmod a b)) := am_rem64 oa ob
  have e2 : am_cv (ad0 ++ t) (.inr (.inl (w64 (Int.tmod a b)))) = .long (Int64.ofInt a - Int64.ofInt a / Int64.ofInt b * Int64.ofInt b) := congrArg Value.long ev.symm
  rw [List.map_cons, e2] at k0
  exact lv_lrem hx hb hd (fun z => hne ((am_eq64 ob (by unfold am_i64; omega)).mp z)) k0
theorem am_t_lshl (X : am_cx p R s m args meth c D cl cs A C3 C4 nw Ts cc mL ret y d mc ms) {a b : Int} (hd : decode cc pc = .ok (.lshl, 1)) (ih : am_G p l e R s m args below meth c D cl ft cs A ad0 mL rt mc ms r h' (pc + 1) ls (.inr (.inl (l_shl a b)) :: st) h cb sb) : am_G p l e R s m args below meth c D cl ft cs A ad0 mL rt mc ms r h' pc ls (.inl b :: .inr (.inl a) :: st) h cb sb := by
  obtain ⟨hx, hb, hml, hr, hts, hown, hlk, hnm, hK, hA, hRf, hRl, hRc, hRs⟩ := X
  intro t H locs cls cells slots hR hS hL hO h1 h2
  obtain ⟨ob, hO⟩ := List.forall_mem_cons.mp hO
  obtain ⟨oa, hO⟩ := List.forall_mem_cons.mp hO
  exact lv_lshl hx hb hd (v := Int64.ofInt (l_shl a b)) (Int64.ofInt_toInt _).symm (ih t H locs cls cells slots hR hS hL (List.forall_mem_cons.mpr ⟨am_r64 _, hO⟩) h1 h2)
theorem am_t_lushr (X : am_cx p R s m args meth c D cl cs A C3 C4 nw Ts cc mL ret y d mc ms) {a b : Int} (hd : decode cc pc = .ok (.lushr, 1)) (ih : am_G p l e R s m args below meth c D cl ft cs A ad0 mL rt mc ms r h' (pc + 1) ls (.inr (.inl (l_ushr a b)) :: st) h cb sb) : am_G p l e R s m args below meth c D cl ft cs A ad0 mL rt mc ms r h' pc ls (.inl b :: .inr (.inl a) :: st) h cb sb := by
  obtain ⟨hx, hb, hml, hr, hts, hown, hlk, hnm, hK, hA, hRf, hRl, hRc, hRs⟩ := X
  intro t H locs cls cells slots hR hS hL hO h1 h2
  obtain ⟨ob, hO⟩ := List.forall_mem_cons.mp hO
  obtain ⟨oa, hO⟩ := List.forall_mem_cons.mp hO
  exact lv_lushr hx hb hd (v := Int64.ofInt (l_ushr a b)) (Int64.ofInt_toInt _).symm (ih t H locs cls cells slots hR hS hL (List.forall_mem_cons.mpr ⟨am_r64 _, hO⟩) h1 h2)
theorem am_t_lcmp (X : am_cx p R s m args meth c D cl cs A C3 C4 nw Ts cc mL ret y d mc ms) {a b : Int} (hd : decode cc pc = .ok (.lcmp, 1)) (ih : am_G p l e R s m args below meth c D cl ft cs A ad0 mL rt mc ms r h' (pc + 1) ls (.inl (l_cmp a b) :: st) h cb sb) : am_G p l e R s m args below meth c D cl ft cs A ad0 mL rt mc ms r h' pc ls (.inr (.inl b) :: .inr (.inl a) :: st) h cb sb := by
  obtain ⟨hx, hb, hml, hr, hts, hown, hlk, hnm, hK, hA, hRf, hRl, hRc, hRs⟩ := X
  intro t H locs cls cells slots hR hS hL hO h1 h2
  obtain ⟨ob, hO⟩ := List.forall_mem_cons.mp hO
  obtain ⟨oa, hO⟩ := List.forall_mem_cons.mp hO
  have k0 := ih t H locs cls cells slots hR hS hL (List.forall_mem_cons.mpr ⟨(by show am_i32 (l_cmp a b); unfold l_cmp am_i32; split <;> (try split) <;> omega), hO⟩) h1 h2
  have e2 : am_cv (ad0 ++ t) (.inl (l_cmp a b)) = .int (lg_cmp (Int64.ofInt a) (Int64.ofInt b)) := congrArg Value.int (am_cmp oa ob).symm
  rw [List.map_cons, e2] at k0
  exact W.lcmp hx hb hd k0
theorem am_t_i2l (X : am_cx p R s m args meth c D cl cs A C3 C4 nw Ts cc mL ret y d mc ms) {a : Int} (hd : decode cc pc = .ok (.i2l, 1)) (ih : am_G p l e R s m args below meth c D cl ft cs A ad0 mL rt mc ms r h' (pc + 1) ls (.inr (.inl a) :: st) h cb sb) : am_G p l e R s m args below meth c D cl ft cs A ad0 mL rt mc ms r h' pc ls (.inl a :: st) h cb sb := by
  obtain ⟨hx, hb, hml, hr, hts, hown, hlk, hnm, hK, hA, hRf, hRl, hRc, hRs⟩ := X
  intro t H locs cls cells slots hR hS hL hO h1 h2
  obtain ⟨oa, hO⟩ := List.forall_mem_cons.mp hO
  exact lv_i2l hx hb hd (am_i2l oa) (ih t H locs cls cells slots hR hS hL (List.forall_mem_cons.mpr ⟨(by have q : am_i32 a := oa; unfold am_i32 at q; show am_i64 a; unfold am_i64; omega), hO⟩) h1 h2)
theorem am_t_l2i (X : am_cx p R s m args meth c D cl cs A C3 C4 nw Ts cc mL ret y d mc ms) {a : Int} (hd : decode cc pc = .ok (.l2i, 1)) (ih : am_G p l e R s m args below meth c D cl ft cs A ad0 mL rt mc ms r h' (pc + 1) ls (.inl (w32 a) :: st) h cb sb) : am_G p l e R s m args below meth c D cl ft cs A ad0 mL rt mc ms r h' pc ls (.inr (.inl a) :: st) h cb sb := by
  obtain ⟨hx, hb, hml, hr, hts, hown, hlk, hnm, hK, hA, hRf, hRl, hRc, hRs⟩ := X
  intro t H locs cls cells slots hR hS hL hO h1 h2
  obtain ⟨oa, hO⟩ := List.forall_mem_cons.mp hO
  exact lv_l2i hx hb hd (am_l2i a) (ih t H locs cls cells slots hR hS hL (List.forall_mem_cons.mpr ⟨w32_rng _, hO⟩) h1 h2)
theorem am_t_i2b (X : am_cx p R s m args meth c D cl cs A C3 C4 nw Ts cc mL ret y d mc ms) {a : Int} (hd : decode cc pc = .ok (.i2b, 1)) (ih : am_G p l e R s m args below meth c D cl ft cs A ad0 mL rt mc ms r h' (pc + 1) ls (.inl (w8 a) :: st) h cb sb) : am_G p l e R s m args below meth c D cl ft cs A ad0 mL rt mc ms r h' pc ls (.inl a :: st) h cb sb := by
  obtain ⟨hx, hb, hml, hr, hts, hown, hlk, hnm, hK, hA, hRf, hRl, hRc, hRs⟩ := X
  intro t H locs cls cells slots hR hS hL hO h1 h2
  obtain ⟨oa, hO⟩ := List.forall_mem_cons.mp hO
  exact lv_i2b hx hb hd (am_i2b a) (ih t H locs cls cells slots hR hS hL (List.forall_mem_cons.mpr ⟨(by have := w8_rng a; show am_i32 (w8 a); unfold am_i32; omega), hO⟩) h1 h2)
theorem am_t_dup (X : am_cx p R s m args meth c D cl cs A C3 C4 nw Ts cc mL ret y d mc ms) {v : am_v} (hc : am_cat v = 1) (hd : decode cc pc = .ok (.dup, 1)) (ih : am_G p l e R s m args below meth c D cl ft cs A ad0 mL rt mc ms r h' (pc + 1) ls (v :: v :: st) h cb sb) : am_G p l e R s m args below meth c D cl ft cs A ad0 mL rt mc ms r h' pc ls (v :: st) h cb sb := by
  obtain ⟨hx, hb, hml, hr, hts, hown, hlk, hnm, hK, hA, hRf, hRl, hRc, hRs⟩ := X
  intro t H locs cls cells slots hR hS hL hO h1 h2
  obtain ⟨oa, hO⟩ := List.forall_mem_cons.mp hO
  exact lv_dup hx hb hd (by rw [am_cat_cv]; exact hc) (ih t H locs cls cells slots hR hS hL (List.forall_mem_cons.mpr ⟨oa, List.forall_mem_cons.mpr ⟨oa, hO⟩⟩) h1 h2)
theorem am_t_dup2 (X : am_cx p R s m args meth c D cl cs A C3 C4 nw Ts cc mL ret y d mc ms) {v u : am_v} (hc : am_cat v = 1) (hc2 : am_cat u = 1) (hd : decode cc pc = .ok (.dup2, 1)) (ih : am_G p l e R s m args below meth c D cl ft cs A ad0 mL rt mc ms r h' (pc + 1) ls (v :: u :: v :: u :: st) h cb sb) : am_G p l e R s m args below meth c D cl ft cs A ad0 mL rt mc ms r h' pc ls (v :: u :: st) h cb sb := by
  obtain ⟨hx, hb, hml, hr, hts, hown, hlk, hnm, hK, hA, hRf, hRl, hRc, hRs⟩ := X
  intro t H locs cls cells slots hR hS hL hO h1 h2
  obtain ⟨oa, hO⟩ := List.forall_mem_cons.mp hO
  obtain ⟨ob, hO⟩ := List.forall_mem_cons.mp hO
  exact lv_dup2_11 hx hb hd (by rw [am_cat_cv]; exact hc) (by rw [am_cat_cv]; exact hc2) (ih t H locs cls cells slots hR hS hL (List.forall_mem_cons.mpr ⟨oa, List.forall_mem_cons.mpr ⟨ob, List.forall_mem_cons.mpr ⟨oa, List.forall_mem_cons.mpr ⟨ob, hO⟩⟩⟩⟩) h1 h2)
theorem am_t_goto (X : am_cx p R s m args meth c D cl cs A C3 C4 nw Ts cc mL ret y d mc ms) {off : Int} {x1 : Nat} (hd : decode cc pc = .ok (.goto off, 3)) (ht : (pc : Int) + off = (x1 : Int)) (ih : am_G p l e R s m args below meth c D cl ft cs A ad0 mL rt mc ms r h' x1 ls st h cb sb) : am_G p l e R s m args below meth c D cl ft cs A ad0 mL rt mc ms r h' pc ls st h cb sb := by
  obtain ⟨hx, hb, hml, hr, hts, hown, hlk, hnm, hK, hA, hRf, hRl, hRc, hRs⟩ := X
  intro t H locs cls cells slots hR hS hL hO h1 h2
  exact lv_goto hx hb hd ht (ih t H locs cls cells slots hR hS hL hO h1 h2)
theorem am_t_if_eq (X : am_cx p R s m args meth c D cl cs A C3 C4 nw Ts cc mL ret y d mc ms) {a off : Int} {x1 : Nat} (hd : decode cc pc = .ok (.ifCond .eq off, 3)) (ht : (pc : Int) + off = (x1 : Int)) (it : a = 0 → am_G p l e R s m args below meth c D cl ft cs A ad0 mL rt mc ms r h' x1 ls st h cb sb) (jf : ¬ (a = 0) → am_G p l e R s m args below meth c D cl ft cs A ad0 mL rt mc ms r h' (pc + 3) ls st h cb sb) : am_G p l e R s m args below meth c D cl ft cs A ad0 mL rt mc ms r h' pc ls (.inl a :: st) h cb sb := by
  obtain ⟨hx, hb, hml, hr, hts, hown, hlk, hnm, hK, hA, hRf, hRl, hRc, hRs⟩ := X
  intro t H locs cls cells slots hR hS hL hO h1 h2
  obtain ⟨oa, hO⟩ := List.forall_mem_cons.mp hO
  exact lv_if_eq hx hb hd ht (fun q => it ((am_eq32 oa am_0).mp q) t H locs cls cells slots hR hS hL hO h1 h2) (fun q => jf (fun z => q ((am_eq32 oa am_0).mpr z)) t H locs cls cells slots hR hS hL hO h1 h2)
theorem am_t_icmp_eq (X : am_cx p R s m args meth c D cl cs A C3 C4 nw Ts cc mL ret y d mc ms) {a b off : Int} {x1 : Nat} (hd : decode cc pc = .ok (.if_icmp .eq off, 3)) (ht : (pc : Int) + off = (x1 : Int)) (it : a = b → am_G p l e R s m args below meth c D cl ft cs A ad0 mL rt mc ms r h' x1 ls st h cb sb) (jf : ¬ (a = b) → am_G p l e R s m args below meth c D cl ft cs A ad0 mL rt mc ms r h' (pc + 3) ls st h cb sb) : am_G p l e R s m args below meth c D cl ft cs A ad0 mL rt mc ms r h' pc ls (.inl b :: .inl a :: st) h cb sb := by
  obtain ⟨hx, hb, hml, hr, hts, hown, hlk, hnm, hK, hA, hRf, hRl, hRc, hRs⟩ := X
  intro t H locs cls cells slots hR hS hL hO h1 h2
  obtain ⟨ob, hO⟩ := List.forall_mem_cons.mp hO
  obtain ⟨oa, hO⟩ := List.forall_mem_cons.mp hO
  exact lv_icmp_eq hx hb hd ht (fun q => it ((am_eq32 oa ob).mp q) t H locs cls cells slots hR hS hL hO h1 h2) (fun q => jf (fun z => q ((am_eq32 oa ob).mpr z)) t H locs cls cells slots hR hS hL hO h1 h2)
theorem am_t_if_ne (X : am_cx p R s m args meth c D cl cs A C3 C4 nw Ts cc mL ret y d mc ms) {a off : Int} {x1 : Nat} (hd : decode cc pc = .ok (.ifCond .ne off, 3)) (ht : (pc : Int) + off = (x1 : Int)) (it : ¬ (a = 0) → am_G p l e R s m args below meth c D cl ft cs A ad0 mL rt mc ms r h' x1 ls st h cb sb) (jf : a = 0 → am_G p l e R s m args below meth c D cl ft cs A ad0 mL rt mc ms r h' (pc + 3) ls st h cb sb) : am_G p l e R s m args below meth c D cl ft cs A ad0 mL rt mc ms r h' pc ls (.inl a :: st) h cb sb := by
  obtain ⟨hx, hb, hml, hr, hts, hown, hlk, hnm, hK, hA, hRf, hRl, hRc, hRs⟩ := X
  intro t H locs cls cells slots hR hS hL hO h1 h2
  obtain ⟨oa, hO⟩ := List.forall_mem_cons.mp hO
  exact lv_if_ne hx hb hd ht (fun q => it (fun z => q ((am_eq32 oa am_0).mpr z)) t H locs cls cells slots hR hS hL hO h1 h2) (fun q => jf ((am_eq32 oa am_0).mp q) t H locs cls cells slots hR hS hL hO h1 h2)
theorem am_t_icmp_ne (X : am_cx p R s m args meth c D cl cs A C3 C4 nw Ts cc mL ret y d mc ms) {a b off : Int} {x1 : Nat} (hd : decode cc pc = .ok (.if_icmp .ne off, 3)) (ht : (pc : Int) + off = (x1 : Int)) (it : ¬ (a = b) → am_G p l e R s m args below meth c D cl ft cs A ad0 mL rt mc ms r h' x1 ls st h cb sb) (jf : a = b → am_G p l e R s m args below meth c D cl ft cs A ad0 mL rt mc ms r h' (pc + 3) ls st h cb sb) : am_G p l e R s m args below meth c D cl ft cs A ad0 mL rt mc ms r h' pc ls (.inl b :: .inl a :: st) h cb sb := by
  obtain ⟨hx, hb, hml, hr, hts, hown, hlk, hnm, hK, hA, hRf, hRl, hRc, hRs⟩ := X
  intro t H locs cls cells slots hR hS hL hO h1 h2
  obtain ⟨ob, hO⟩ := List.forall_mem_cons.mp hO
  obtain ⟨oa, hO⟩ := List.forall_mem_cons.mp hO
  exact lv_icmp_ne hx hb hd ht (fun q => it (fun z => q ((am_eq32 oa ob).mpr z)) t H locs cls cells slots hR hS hL hO h1 h2) (fun q => jf ((am_eq32 oa ob).mp q) t H locs cls cells slots hR hS hL hO h1 h2)
theorem am_t_if_lt (X : am_cx p R s m args meth c D cl cs A C3 C4 nw Ts cc mL ret y d mc ms) {a off : Int} {x1 : Nat} (hd : decode cc pc = .ok (.ifCond .lt off, 3)) (ht : (pc : Int) + off = (x1 : Int)) (it : a < 0 → am_G p l e R s m args below meth c D cl ft cs A ad0 mL rt mc ms r h' x1 ls st h cb sb) (jf : ¬ (a < 0) → am_G p l e R s m args below meth c D cl ft cs A ad0 mL rt mc ms r h' (pc + 3) ls st h cb sb) : am_G p l e R s m args below meth c D cl ft cs A ad0 mL rt mc ms r h' pc ls (.inl a :: st) h cb sb := by
  obtain ⟨hx, hb, hml, hr, hts, hown, hlk, hnm, hK, hA, hRf, hRl, hRc, hRs⟩ := X
  intro t H locs cls cells slots hR hS hL hO h1 h2
  obtain ⟨oa, hO⟩ := List.forall_mem_cons.mp hO
  exact lv_if_lt hx hb hd ht (fun q => it ((am_lt32 oa am_0).mp q) t H locs cls cells slots hR hS hL hO h1 h2) (fun q => jf (fun z => q ((am_lt32 oa am_0).mpr z)) t H locs cls cells slots hR hS hL hO h1 h2)
theorem am_t_icmp_lt (X : am_cx p R s m args meth c D cl cs A C3 C4 nw Ts cc mL ret y d mc ms) {a b off : Int} {x1 : Nat} (hd : decode cc pc = .ok (.if_icmp .lt off, 3)) (ht : (pc : Int) + off = (x1 : Int)) (it : a < b → am_G p l e R s m args below meth c D cl ft cs A ad0 mL rt mc ms r h' x1 ls st h cb sb) (jf : ¬ (a < b) → am_G p l e R s m args below meth c D cl ft cs A ad0 mL rt mc ms r h' (pc + 3) ls st h cb sb) : am_G p l e R s m args below meth c D cl ft cs A ad0 mL rt mc ms r h' pc ls (.inl b :: .inl a :: st) h cb sb := by
  obtain ⟨hx, hb, hml, hr, hts, hown, hlk, hnm, hK, hA, hRf, hRl, hRc, hRs⟩ := X
  intro t H locs cls cells slots hR hS hL hO h1 h2
  obtain ⟨ob, hO⟩ := List.forall_mem_cons.mp hO
  obtain ⟨oa, hO⟩ := List.forall_mem_cons.mp hO
  exact lv_icmp_lt hx hb hd ht (fun q => it ((am_lt32 oa ob).mp q) t H locs cls cells slots hR hS hL hO h1 h2) (fun q => jf (fun z => q ((am_lt32 oa ob).mpr z)) t H locs cls cells slots hR hS hL hO h1 h2)
theorem am_t_if_ge (X : am_cx p R s m args meth c D cl cs A C3 C4 nw Ts cc mL ret y d mc ms) {a off : Int} {x1 : Nat} (hd : decode cc pc = .ok (.ifCond .ge off, 3)) (ht : (pc : Int) + off = (x1 : Int)) (it : ¬ (a < 0) → am_G p l e R s m args below meth c D cl ft cs A ad0 mL rt mc ms r h' x1 ls st h cb sb) (jf : a < 0 → am_G p l e R s m args below meth c D cl ft cs A ad0 mL rt mc ms r h' (pc + 3) ls st h cb sb) : am_G p l e R s m args below meth c D cl ft cs A ad0 mL rt mc ms r h' pc ls (.inl a :: st) h cb sb := by
  obtain ⟨hx, hb, hml, hr, hts, hown, hlk, hnm, hK, hA, hRf, hRl, hRc, hRs⟩ := X
  intro t H locs cls cells slots hR hS hL hO h1 h2
  obtain ⟨oa, hO⟩ := List.forall_mem_cons.mp hO
  exact lv_if_ge hx hb hd ht (fun q => it (fun z => absurd ((am_lt32 oa am_0).mpr z) (Int32.not_lt.mpr q)) t H locs cls cells slots hR hS hL hO h1 h2) (fun q => jf ((am_lt32 oa am_0).mp (Int32.not_le.mp q)) t H locs cls cells slots hR hS hL hO h1 h2)
theorem am_t_icmp_ge (X : am_cx p R s m args meth c D cl cs A C3 C4 nw Ts cc mL ret y d mc ms) {a b off : Int} {x1 : Nat} (hd : decode cc pc = .ok (.if_icmp .ge off, 3)) (ht : (pc : Int) + off = (x1 : Int)) (it : ¬ (a < b) → am_G p l e R s m args below meth c D cl ft cs A ad0 mL rt mc ms r h' x1 ls st h cb sb) (jf : a < b → am_G p l e R s m args below meth c D cl ft cs A ad0 mL rt mc ms r h' (pc + 3) ls st h cb sb) : am_G p l e R s m args below meth c D cl ft cs A ad0 mL rt mc ms r h' pc ls (.inl b :: .inl a :: st) h cb sb := by
  obtain ⟨hx, hb, hml, hr, hts, hown, hlk, hnm, hK, hA, hRf, hRl, hRc, hRs⟩ := X
  intro t H locs cls cells slots hR hS hL hO h1 h2
  obtain ⟨ob, hO⟩ := List.forall_mem_cons.mp hO
  obtain ⟨oa, hO⟩ := List.forall_mem_cons.mp hO
  exact lv_icmp_ge hx hb hd ht (fun q => it (fun z => absurd ((am_lt32 oa ob).mpr z) (Int32.not_lt.mpr q)) t H locs cls cells slots hR hS hL hO h1 h2) (fun q => jf ((am_lt32 oa ob).mp (Int32.not_le.mp q)) t H locs cls cells slots hR hS hL hO h1 h2)
theorem am_t_if_gt (X : am_cx p R s m args meth c D cl cs A C3 C4 nw Ts cc mL ret y d mc ms) {a off : Int} {x1 : Nat} (hd : decode cc pc = .ok (.ifCond .gt off, 3)) (ht : (pc : Int) + off = (x1 : Int)) (it : 0 < a → am_G p l e R s m args below meth c D cl ft cs A ad0 mL rt mc ms r h' x1 ls st h cb sb) (jf : ¬ (0 < a) → am_G p l e R s m args below meth c D cl ft cs A ad0 mL rt mc ms r h' (pc + 3) ls st h cb sb) : am_G p l e R s m args below meth c D cl ft cs A ad0 mL rt mc ms r h' pc ls (.inl a :: st) h cb sb := by
  obtain ⟨hx, hb, hml, hr, hts, hown, hlk, hnm, hK, hA, hRf, hRl, hRc, hRs⟩ := X
  intro t H locs cls cells slots hR hS hL hO h1 h2
  obtain ⟨oa, hO⟩ := List.forall_mem_cons.mp hO
  exact lv_if_gt hx hb hd ht (fun q => it ((am_lt32 am_0 oa).mp q) t H locs cls cells slots hR hS hL hO h1 h2) (fun q => jf (fun z => q ((am_lt32 am_0 oa).mpr z)) t H locs cls cells slots hR hS hL hO h1 h2)
theorem am_t_icmp_gt (X : am_cx p R s m args meth c D cl cs A C3 C4 nw Ts cc mL ret y d mc ms) {a b off : Int} {x1 : Nat} (hd : decode cc pc = .ok (.if_icmp .gt off, 3)) (ht : (pc : Int) + off = (x1 : Int)) (it : b < a → am_G p l e R s m args below meth c D cl ft cs A ad0 mL rt mc ms r h' x1 ls st h cb sb) (jf : ¬ (b < a) → am_G p l e R s m args below meth c D cl ft cs A ad0 mL rt mc ms r h' (pc + 3) ls st h cb sb) : am_G p l e R s m args below meth c D cl ft cs A ad0 mL rt mc ms r h' pc ls (.inl b :: .inl a :: st) h cb sb := by
  obtain ⟨hx, hb, hml, hr, hts, hown, hlk, hnm, hK, hA, hRf, hRl, hRc, hRs⟩ := X
  intro t H locs cls cells slots hR hS hL hO h1 h2
  obtain ⟨ob, hO⟩ := List.forall_mem_cons.mp hO
  obtain ⟨oa, hO⟩ := List.forall_mem_cons.mp hO
  exact lv_icmp_gt hx hb hd ht (fun q => it ((am_lt32 ob oa).mp q) t H locs cls cells slots hR hS hL hO h1 h2) (fun q => jf (fun z => q ((am_lt32 ob oa).mpr z)) t H locs cls cells slots hR hS hL hO h1 h2)
theorem am_t_if_le (X : am_cx p R s m args meth c D cl cs A C3 C4 nw Ts cc mL ret y d mc ms) {a off : Int} {x1 : Nat} (hd : decode cc pc = .ok (.ifCond .le off, 3)) (ht : (pc : Int) + off = (x1 : Int)) (it : ¬ (0 < a) → am_G p l e R s m args below meth c D cl ft cs A ad0 mL rt mc ms r h' x1 ls st h cb sb) (jf : 0 < a → am_G p l e R s m args below meth c D cl ft cs A ad0 mL rt mc ms r h' (pc + 3) ls st h cb sb) : am_G p l e R s m args below meth c D cl ft cs A ad0 mL rt mc ms r h' pc ls (.inl a :: st) h cb sb := by
  obtain ⟨hx, hb, hml, hr, hts, hown, hlk, hnm, hK, hA, hRf, hRl, hRc, hRs⟩ := X
  intro t H locs cls cells slots hR hS hL hO h1 h2
  obtain ⟨oa, hO⟩ := List.forall_mem_cons.mp hO
  exact lv_if_le hx hb hd ht (fun q => it (fun z => absurd ((am_lt32 am_0 oa).mpr z) (Int32.not_lt.mpr q)) t H locs cls cells slots hR hS hL hO h1 h2) (fun q => jf ((am_lt32 am_0 oa).mp (Int32.not_le.mp q)) t H locs cls cells slots hR hS hL hO h1 h2)
theorem am_t_icmp_le (X : am_cx p R s m args meth c D cl cs A C3 C4 nw Ts cc mL ret y d mc ms) {a b off : Int} {x1 : Nat} (hd : decode cc pc = .ok (.if_icmp .le off, 3)) (ht : (pc : Int) + off = (x1 : Int)) (it : ¬ (b < a) → am_G p l e R s m args below meth c D cl ft cs A ad0 mL rt mc ms r h' x1 ls st h cb sb) (jf : b < a → am_G p l e R s m args below meth c D cl ft cs A ad0 mL rt mc ms r h' (pc + 3) ls st h cb sb) : am_G p l e R s m args below meth c D cl ft cs A ad0 mL rt mc ms r h' pc ls (.inl b :: .inl a :: st) h cb sb := by
  obtain ⟨hx, hb, hml, hr, hts, hown, hlk, hnm, hK, hA, hRf, hRl, hRc, hRs⟩ := X
  intro t H locs cls cells slots hR hS hL hO h1 h2
  obtain ⟨ob, hO⟩ := List.forall_mem_cons.mp hO
  obtain ⟨oa, hO⟩ := List.forall_mem_cons.mp hO
  exact lv_icmp_le hx hb hd ht (fun q => it (fun z => absurd ((am_lt32 ob oa).mpr z) (Int32.not_lt.mpr q)) t H locs cls cells slots hR hS hL hO h1 h2) (fun q => jf ((am_lt32 ob oa).mp (Int32.not_le.mp q)) t H locs cls cells slots hR hS hL hO h1 h2)
end AM7
