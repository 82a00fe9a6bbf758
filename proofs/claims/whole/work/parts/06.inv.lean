/-! inversions -/
theorem am_i1_some {β : Type} {st : List am_v} {f : Int → List am_v → Option β} {x : β} (h : am_i1 none st f = some x) : ∃ a t, st = .inl a :: t ∧ f a t = some x := by
  unfold am_i1 at h; split at h
  · exact ⟨_, _, rfl, h⟩
  · cases h
theorem am_l1_some {β : Type} {st : List am_v} {f : Int → List am_v → Option β} {x : β} (h : am_l1 none st f = some x) : ∃ a t, st = .inr (.inl a) :: t ∧ f a t = some x := by
  unfold am_l1 at h; split at h
  · exact ⟨_, _, rfl, h⟩
  · cases h
theorem am_r1_some {β : Type} {st : List am_v} {f : Nat → List am_v → Option β} {x : β} (h : am_r1 none st f = some x) : ∃ a t, st = .inr (.inr a) :: t ∧ f a t = some x := by
  unfold am_r1 at h; split at h
  · exact ⟨_, _, rfl, h⟩
  · cases h
theorem am_bif_some {β : Type} {b : Bool} {t : Option β} {x : β} (h : (bif b then t else none) = some x) : b = true ∧ t = some x := by
  cases b
  · cases h
  · exact ⟨rfl, h⟩
theorem am_if_some {β : Type} {b : Prop} [Decidable b] {t : Option β} {x : β} (h : (if b then t else none) = some x) : b ∧ t = some x := by
  by_cases q : b
  · rw [if_pos q] at h; exact ⟨q, h⟩
  · rw [if_neg q] at h; cases h
theorem am_ifn_some {β : Type} {b : Prop} [Decidable b] {t : Option β} {x : β} (h : (if b then none else t) = some x) : ¬ b ∧ t = some x := by
  by_cases q : b
  · rw [if_pos q] at h; cases h
  · rw [if_neg q] at h; exact ⟨q, h⟩
theorem am_ob_some {β : Type} {g : am_g} {r x : Nat} {f : Nat → Option β} {z : β} (h : am_ob none g r x f = some z) : ∃ k, r = k + 1 ∧ k < g.1 ∧ (g.2.1 k).1 = x ∧ f k = some z := by
  unfold am_ob at h; split at h
  · cases h
  · obtain ⟨q, h⟩ := am_bif_some h
    rw [Bool.and_eq_true] at q
    exact ⟨_, rfl, Nat.le_of_ble_eq_true q.1, Nat.eq_of_beq_eq_true q.2, h⟩
/-! the tables' words of a state -/
def am_tys (cs : Nat → ClassId) (C3 C4 : String) : List (ClassId × FieldType) := [(cs 0, .int), (cs 1, .long), (cs 2, .byte), (cs 3, .object C3), (cs 4, .object C4)]
def am_K (D : va_G) (cl : List vw_C) (cs : Nat → ClassId) (C3 C4 : String) (nw : List (String × Nat × MethodName × String)) (U : State) : Prop := va_K D cl (am_tys cs C3 C4) U ∧ va_AO C3 U ∧ va_AO C4 U ∧ ∀ q ∈ nw, va_Nw (.methodLinkNest q.1 q.2.1 q.2.2.1 q.2.2.2) U
theorem am_K.warm {D : va_G} {cl : List vw_C} {cs : Nat → ClassId} {C3 C4 : String} {nw : List (String × Nat × MethodName × String)} {s U : State} (h : am_K D cl cs C3 C4 nw s) (hW : s.WarmedH U.vm) : am_K D cl cs C3 C4 nw U := ⟨va_K.moved hW.alike h.1, va_AO.moved hW.alike h.2.1, va_AO.moved hW.alike h.2.2.1, fun q hq => va_Nw.warmM hW (h.2.2.2 q hq)⟩
theorem am_K.calling {D : va_G} {cl : List vw_C} {cs : Nat → ClassId} {C3 C4 : String} {nw : List (String × Nat × MethodName × String)} {U : State} (h : am_K D cl cs C3 C4 nw U) (g : JFrame) (mk : MethodId) (a : Array Value) : am_K D cl cs C3 C4 nw (U.calling g mk a) := ⟨va_K.moved (u := U) (U := U.calling g mk a) (Vm.Alike.refl U.vm) h.1, va_AO.moved (u := U) (U := U.calling g mk a) (Vm.Alike.refl U.vm) h.2.1, va_AO.moved (u := U) (U := U.calling g mk a) (Vm.Alike.refl U.vm) h.2.2.1, fun q hq => va_Nw.same (u := U) (U := U.calling g mk a) rfl rfl (h.2.2.2 q hq)⟩
def am_rvv (ad : List Nat) (rt : Nat) (r : Int) : Option Value := match rt with
  | 0 => none
  | 2 => some (.long (Int64.ofInt r))
  | 3 => some (va_rf (am_rv ad r.toNat))
  | _ => some (.int (Int32.ofInt r))
def am_rok (n rt : Nat) (r : Int) : Prop := match rt with
  | 0 => True
  | 2 => am_i64 r
  | 3 => r.toNat ≤ n
  | _ => am_i32 r
def am_Qc (D : va_G) (cl : List vw_C) (ft : Nat → List Nat) (cs : Nat → ClassId) (A : Nat → Prop) (ad0 : List Nat) (rt : Nat) (r : Int) (h' : am_h) : Array Value → State → Outcome → State → Prop := fun _ st oc t => (∃ t', oc = .returned (am_rvv (ad0 ++ t') rt r) ∧ am_RP D cl ft cs A (ad0 ++ t') h' t.heap ∧ am_rok h'.1.1 rt r) ∧ va_F A st t
/-- the machine goes well from a place of the small machine -/
def am_G (p : Program) (l : Launch) (e : Env) (R : Room) (s : State) (m : MethodId) (args : Array Value) (below : List Frame) (meth : Method) (c : Code) (D : va_G) (cl : List vw_C) (ft : Nat → List Nat) (cs : Nat → ClassId) (A : Nat → Prop) (ad0 : List Nat) (mL rt mc ms : Nat) (r : Int) (h' : am_h) (pc : Nat) (ls : am_l) (st : List am_v) (h : am_h) (cb sb : Nat) : Prop :=
  ∀ (t : List Nat) (H : Heap) (locs : List Loc) (cls : Array Slot) (cells slots : Nat), am_RP D cl ft cs A (ad0 ++ t) h H → va_S A s.heap H locs → am_LR (ad0 ++ t) h.1.1 cls mL ls → (∀ v ∈ st, am_ok h.1.1 v) → cells + cb = mc → slots + sb = ms →
    W p l e R s m args below meth c H locs cells slots (MQ below (am_Qc D cl ft cs A ad0 rt r h') args s mc ms A) (F0 m pc cls (st.map (am_cv (ad0 ++ t))))
/-- what is fixed within a method -/
def am_cx (p : Program) (R : Room) (s : State) (m : MethodId) (args : Array Value) (meth : Method) (c : Code) (D : va_G) (cl : List vw_C) (cs : Nat → ClassId) (A : Nat → Prop) (C3 C4 : String) (nw : List (String × Nat × MethodName × String)) (Ts : List Cond) (cc : ByteArray) (mL : Nat) (ret : Option FieldType) (y : MethodName) (d mc ms : Nat) : Prop :=
  p.tables.exec = Jvm.exec ∧ c.code = cc ∧ c.maxLocals = mL ∧ meth.sig.returnType = ret ∧ (∀ w ∈ Ts, w.before args s = true) ∧ s.vm.findClass y.cls = some m.cls ∧ meth.locks = false ∧ meth.name = y.name ∧ am_K D cl cs C3 C4 nw s ∧ (∀ q, s.heap.size ≤ q → A q) ∧ R.frames = d + 1 ∧ R.locals = (d + 1) * 50 ∧ R.cells = mc ∧ R.slots = ms
