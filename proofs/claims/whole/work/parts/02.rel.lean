/-! one step, related by parts -/
theorem am_i1_rel {α β : Type} (R : α → β → Prop) {bad : α} {bad' : β} (hb : R bad bad') (st : List am_v) {f : Int → List am_v → α} {f' : Int → List am_v → β} (hf : ∀ a s, R (f a s) (f' a s)) : R (am_i1 bad st f) (am_i1 bad' st f') := by
  unfold am_i1; split <;> first | exact hf _ _ | exact hb
theorem am_l1_rel {α β : Type} (R : α → β → Prop) {bad : α} {bad' : β} (hb : R bad bad') (st : List am_v) {f : Int → List am_v → α} {f' : Int → List am_v → β} (hf : ∀ a s, R (f a s) (f' a s)) : R (am_l1 bad st f) (am_l1 bad' st f') := by
  unfold am_l1; split <;> first | exact hf _ _ | exact hb
theorem am_r1_rel {α β : Type} (R : α → β → Prop) {bad : α} {bad' : β} (hb : R bad bad') (st : List am_v) {f : Nat → List am_v → α} {f' : Nat → List am_v → β} (hf : ∀ a s, R (f a s) (f' a s)) : R (am_r1 bad st f) (am_r1 bad' st f') := by
  unfold am_r1; split <;> first | exact hf _ _ | exact hb
theorem am_bif_rel {α β : Type} (R : α → β → Prop) (c : Bool) {t f : α} {t' f' : β} (ht : R t t') (hf : R f f') : R (bif c then t else f) (bif c then t' else f') := by
  cases c
  · exact hf
  · exact ht
theorem am_if_rel {α β : Type} (R : α → β → Prop) (c : Prop) [Decidable c] {t f : α} {t' f' : β} (ht : R t t') (hf : R f f') : R (if c then t else f) (if c then t' else f') := by
  by_cases h : c
  · rw [if_pos h, if_pos h]; exact ht
  · rw [if_neg h, if_neg h]; exact hf
theorem am_ob_rel {α β : Type} (R : α → β → Prop) {bad : α} {bad' : β} (hb : R bad bad') (g : am_g) (r x : Nat) {f : Nat → α} {f' : Nat → β} (hf : ∀ k, R (f k) (f' k)) : R (am_ob bad g r x f) (am_ob bad' g r x f') := by
  unfold am_ob; split
  · exact hb
  · exact am_bif_rel R _ (hf _) hb
theorem am_br_rel {α β : Type} (R : α → β → Prop) (c : ClassFile.Cond) (a b : Int) {t f : α} {t' f' : β} (ht : R t t') (hf : R f f') : R (am_br c a b t f) (am_br c a b t' f') := by
  cases c <;> first | exact am_if_rel R _ ht hf | exact am_if_rel R _ hf ht
theorem am_sw_rel {α β : Type} (R : α → β → Prop) (x : Int) (d : Nat) (l : List (Int × Nat)) {k : Nat → α} {k' : Nat → β} (hk : ∀ t, R (k t) (k' t)) : R (am_sw x k d l) (am_sw x k' d l) := by
  induction l with
  | nil => exact hk d
  | cons q l ih => obtain ⟨a, t⟩ := q; exact am_if_rel R _ (hk t) ih
set_option maxHeartbeats 4000000 in
theorem am_step_rel {α β : Type} (R : α → β → Prop) {bad : α} {bad' : β} {ret : Int → am_h → α} {ret' : Int → am_h → β} {go : Nat → am_l → List am_v → am_h → Nat → Nat → α} {go' : Nat → am_l → List am_v → am_h → Nat → Nat → β}
    {call : Nat → List am_v → am_h → (Int → am_h → α) → α} {call' : Nat → List am_v → am_h → (Int → am_h → β) → β}
    (hb : R bad bad') (hr : ∀ r h, R (ret r h) (ret' r h)) (hg : ∀ pc ls st h cb sb, R (go pc ls st h cb sb) (go' pc ls st h cb sb)) (hc : ∀ z as h k k', (∀ r h', R (k r h') (k' r h')) → R (call z as h k) (call' z as h k'))
    (rt : Nat) (o : Option am_e) (ls : am_l) (st : List am_v) (h : am_h) (cb sb : Nat) : R (am_step bad ret go call rt o ls st h cb sb) (am_step bad' ret' go' call' rt o ls st h cb sb) := by
  cases o with
  | none => exact hb
  | some e =>
    obtain ⟨ins, nx, v, x1, x2, x3, x4, x5, ts⟩ := e
    cases ins <;> (try exact hb) <;> dsimp only [am_step] <;>
      repeat' first
        | exact hb
        | exact hr _ _
        | exact hg _ _ _ _ _ _
        | refine am_i1_rel R hb _ (fun _ _ => ?_)
        | refine am_l1_rel R hb _ (fun _ _ => ?_)
        | refine am_r1_rel R hb _ (fun _ _ => ?_)
        | refine am_ob_rel R hb _ _ _ (fun _ => ?_)
        | refine am_br_rel R _ _ _ ?_ ?_
        | refine am_sw_rel R _ _ _ (fun _ => ?_)
        | refine am_bif_rel R _ ?_ ?_
        | refine am_if_rel R _ ?_ ?_
        | refine hc _ _ _ _ _ (fun _ _ => ?_)
        | split
/-! more fuel, more depth: the same answer -/
def am_le (f g : Nat → List am_v → am_h → Option (Int × am_h)) : Prop := ∀ z as h x, f z as h = some x → g z as h = some x
theorem am_ex_mono {f g : Nat → List am_v → am_h → Option (Int × am_h)} (hfg : am_le f g) (cd : List (Nat × am_e)) (rt : Nat) : ∀ (n n' : Nat), n ≤ n' → ∀ pc ls st h cb sb x, am_ex f cd rt n pc ls st h cb sb = some x → am_ex g cd rt n' pc ls st h cb sb = some x := by
  intro n
  induction n with
  | zero => intro n' _ pc ls st h cb sb x hx; cases hx
  | succ n ih =>
    intro n' hn pc ls st h cb sb x hx
    obtain ⟨m, rfl⟩ : ∃ m, n' = m + 1 := ⟨n' - 1, by omega⟩
    have key := am_step_rel (α := Option (Int × am_h)) (β := Option (Int × am_h)) (fun a b => ∀ x, a = some x → b = some x) (bad := none) (bad' := none) (ret := fun r h => some (r, h)) (ret' := fun r h => some (r, h)) (go := am_ex f cd rt n) (go' := am_ex g cd rt m)
      (call := fun z as h k => match f z as h with | some (r, h') => k r h' | none => none) (call' := fun z as h k => match g z as h with | some (r, h') => k r h' | none => none)
      (fun _ q => q) (fun _ _ _ q => q) (fun pc ls st h cb sb x q => ih m (by omega) pc ls st h cb sb x q)
      (fun z as h k k' hk x q => by
        try dsimp only at q ⊢
        cases e : f z as h with
        | none => rw [e] at q; cases q
        | some y => rw [e] at q; rw [hfg z as h y e]; exact hk _ _ x q)
      rt (am_at cd pc) ls st h cb sb
    exact key x hx
theorem am_call_mono (P : Nat → Option am_m) : ∀ (d d' F F' : Nat), d ≤ d' → F ≤ F' → am_le (am_call P d F) (am_call P d' F') := by
  intro d
  induction d with
  | zero => intro d' F F' _ _ z as h x hx; cases hx
  | succ d ih =>
    intro d' F F' hd hF z as h x hx
    obtain ⟨m, rfl⟩ : ∃ m, d' = m + 1 := ⟨d' - 1, by omega⟩
    unfold am_call at hx ⊢
    cases e : P z with
    | none => rw [e] at hx; cases hx
    | some y =>
      rw [e] at hx
      obtain ⟨cd, mL, rt, mc, ms⟩ := y
      dsimp only at hx ⊢
      cases b : Nat.ble (am_wds as) mL with
      | false => rw [b] at hx; cases hx
      | true =>
        rw [b] at hx
        exact am_ex_mono (ih m F F' (by omega) hF) cd rt F F' hF _ _ _ _ _ _ x hx
/-! what a call, a place comes to -/
def am_S (P : Nat → Option am_m) (d y : Nat) (args : List am_v) (h : am_h) (Q : Int → am_h → Prop) : Prop := ∃ F r h', am_call P d F y args h = some (r, h') ∧ Q r h'
def am_X (P : Nat → Option am_m) (d : Nat) (cd : List (Nat × am_e)) (rt : Nat) (Q : Int → am_h → Prop) (pc : Nat) (ls : am_l) (st : List am_v) (h : am_h) (cb sb : Nat) : Prop := ∃ F r h', am_ex (am_call P d F) cd rt F pc ls st h cb sb = some (r, h') ∧ Q r h'
theorem am_X_step (P : Nat → Option am_m) (d : Nat) (cd : List (Nat × am_e)) (rt : Nat) (Q : Int → am_h → Prop) (pc : Nat) (ls : am_l) (st : List am_v) (h : am_h) (cb sb : Nat) :
    am_X P d cd rt Q pc ls st h cb sb ↔ am_step False Q (am_X P d cd rt Q) (am_S P d) rt (am_at cd pc) ls st h cb sb := by
  constructor
  · rintro ⟨F, r, h', he, hq⟩
    cases F with
    | zero => cases he
    | succ n =>
      have key := am_step_rel (α := Option (Int × am_h)) (β := Prop) (fun a b => ∀ r h', a = some (r, h') → Q r h' → b) (bad := none) (bad' := False) (ret := fun r h => some (r, h)) (ret' := Q) (go := am_ex (am_call P d (n + 1)) cd rt n) (go' := am_X P d cd rt Q)
        (call := fun z as h k => match am_call P d (n + 1) z as h with | some (r, h') => k r h' | none => none) (call' := am_S P d)
        (fun _ _ q => by cases q) (fun r h r' h' q hq => by cases q; exact hq) (fun pc ls st h cb sb r h' q hq => ⟨n + 1, r, h', am_ex_mono (fun _ _ _ _ z => z) cd rt n (n + 1) (by omega) _ _ _ _ _ _ _ q, hq⟩)
        (fun z as h k k' hk r h' q hq => by
          try dsimp only at q
          cases e : am_call P d (n + 1) z as h with
          | none => rw [e] at q; cases q
          | some y => rw [e] at q; exact ⟨n + 1, y.1, y.2, e, hk _ _ r h' q hq⟩)
        rt (am_at cd pc) ls st h cb sb
      exact key r h' he hq
  · intro hs
    have one := fun n : Nat => am_step_rel (α := Nat → Option (Int × am_h)) (β := Option (Int × am_h)) (fun a b => a n = b) (bad := fun _ => none) (bad' := none) (ret := fun r h _ => some (r, h)) (ret' := fun r h => some (r, h)) (go := fun pc ls st h cb sb n => am_ex (am_call P d (n + 1)) cd rt n pc ls st h cb sb) (go' := am_ex (am_call P d (n + 1)) cd rt n)
      (call := fun z as h k n => match am_call P d (n + 1) z as h with | some (r, h') => k r h' n | none => none) (call' := fun z as h k => match am_call P d (n + 1) z as h with | some (r, h') => k r h' | none => none)
      rfl (fun _ _ => rfl) (fun _ _ _ _ _ _ => rfl) (fun z as h k k' hk => by
        dsimp only
        cases e : am_call P d (n + 1) z as h with
        | none => rfl
        | some y => exact hk _ _)
      rt (am_at cd pc) ls st h cb sb
    have key := am_step_rel (α := Nat → Option (Int × am_h)) (β := Prop) (fun a b => b → ∃ N, ∀ n, N ≤ n → ∃ r h', a n = some (r, h') ∧ Q r h') (bad := fun _ => none) (bad' := False) (ret := fun r h _ => some (r, h)) (ret' := Q) (go := fun pc ls st h cb sb n => am_ex (am_call P d (n + 1)) cd rt n pc ls st h cb sb) (go' := am_X P d cd rt Q)
      (call := fun z as h k n => match am_call P d (n + 1) z as h with | some (r, h') => k r h' n | none => none) (call' := am_S P d)
      (fun q => q.elim) (fun r h q => ⟨0, fun n _ => ⟨r, h, rfl, q⟩⟩) (fun pc ls st h cb sb q => by
        obtain ⟨F, r, h', he, hq⟩ := q
        exact ⟨F, fun n hn => ⟨r, h', am_ex_mono (am_call_mono P d d F (n + 1) (Nat.le_refl _) (by omega)) cd rt F n hn _ _ _ _ _ _ _ he, hq⟩⟩)
      (fun z as h k k' hk q => by
        obtain ⟨F, r, h', he, hq⟩ := q
        obtain ⟨N, hN⟩ := hk r h' hq
        refine ⟨N + F, fun n hn => ?_⟩
        try dsimp only
        rw [am_call_mono P d d F (n + 1) (Nat.le_refl _) (by omega) _ _ _ _ he]
        exact hN n (by omega))
      rt (am_at cd pc) ls st h cb sb
    obtain ⟨N, hN⟩ := key hs
    obtain ⟨r, h', e1, e2⟩ := hN N (Nat.le_refl _)
    rw [one N] at e1
    exact ⟨N + 1, r, h', e1, e2⟩
theorem am_S_eq (P : Nat → Option am_m) (d y : Nat) (args : List am_v) (h : am_h) (Q : Int → am_h → Prop) {cd : List (Nat × am_e)} {mL rt mc ms : Nat} (hy : P y = some (cd, mL, rt, mc, ms)) (hw : Nat.ble (am_wds args) mL = true) : am_S P (d + 1) y args h Q ↔ am_X P d cd rt Q 0 (am_loc args mL) [] h mc ms := by
  unfold am_S am_X am_call
  rw [hy]
  dsimp only
  rw [hw]
  exact Iff.rfl
theorem am_S_mono {P : Nat → Option am_m} {d d' y : Nat} {args : List am_v} {h : am_h} {Q Q' : Int → am_h → Prop} (hd : d ≤ d') (hs : am_S P d y args h Q) (hq : ∀ r h', Q r h' → Q' r h') : am_S P d' y args h Q' := by
  obtain ⟨F, r, h', he, hq0⟩ := hs
  exact ⟨F, r, h', am_call_mono P d d' F F hd (Nat.le_refl _) _ _ _ _ he, hq r h' hq0⟩
theorem am_X_mono {P : Nat → Option am_m} {d : Nat} {cd : List (Nat × am_e)} {rt pc cb sb : Nat} {ls : am_l} {st : List am_v} {h : am_h} {Q Q' : Int → am_h → Prop} (hs : am_X P d cd rt Q pc ls st h cb sb) (hq : ∀ r h', Q r h' → Q' r h') : am_X P d cd rt Q' pc ls st h cb sb := by
  obtain ⟨F, r, h', he, hq0⟩ := hs
  exact ⟨F, r, h', he, hq r h' hq0⟩
/-- the conditions from a place on, up to the cut places -/
def am_vc (P : Nat → Option am_m) (d : Nat) (cd : List (Nat × am_e)) (rt : Nat) (Q : Int → am_h → Prop) (cuts : List Nat) : Nat → Nat → am_l → List am_v → am_h → Nat → Nat → Prop
  | 0, pc, ls, st, h, cb, sb => am_X P d cd rt Q pc ls st h cb sb
  | n + 1, pc, ls, st, h, cb, sb => bif cuts.any (Nat.beq pc) then am_X P d cd rt Q pc ls st h cb sb else am_step False Q (am_vc P d cd rt Q cuts n) (am_S P d) rt (am_at cd pc) ls st h cb sb
theorem am_S_iff {P : Nat → Option am_m} {d z : Nat} {as : List am_v} {h : am_h} {Q Q' : Int → am_h → Prop} (hq : ∀ r h', Q r h' ↔ Q' r h') : am_S P d z as h Q ↔ am_S P d z as h Q' := ⟨fun q => am_S_mono (Nat.le_refl _) q (fun r h' => (hq r h').mp), fun q => am_S_mono (Nat.le_refl _) q (fun r h' => (hq r h').mpr)⟩
theorem am_vc_iff (P : Nat → Option am_m) (d : Nat) (cd : List (Nat × am_e)) (rt : Nat) (Q : Int → am_h → Prop) (cuts : List Nat) : ∀ n pc ls st h cb sb, am_X P d cd rt Q pc ls st h cb sb ↔ am_vc P d cd rt Q cuts n pc ls st h cb sb := by
  intro n
  induction n with
  | zero => intro pc ls st h cb sb; exact Iff.rfl
  | succ n ih =>
    intro pc ls st h cb sb
    unfold am_vc
    cases cuts.any (Nat.beq pc) with
    | true => exact Iff.rfl
    | false => exact (am_X_step P d cd rt Q pc ls st h cb sb).trans (am_step_rel (α := Prop) (β := Prop) (fun a b => a ↔ b) (bad := False) (bad' := False) (ret := Q) (ret' := Q) (call := am_S P d) (call' := am_S P d) Iff.rfl (fun _ _ => Iff.rfl) (fun pc ls st h cb sb => ih pc ls st h cb sb) (fun z as h k k' hk => am_S_iff hk) rt (am_at cd pc) ls st h cb sb)
/-- from a place: one step, then up to the cuts -/
theorem am_vc_from (P : Nat → Option am_m) (d : Nat) (cd : List (Nat × am_e)) (rt : Nat) (Q : Int → am_h → Prop) (cuts : List Nat) (n pc : Nat) (ls : am_l) (st : List am_v) (h : am_h) (cb sb : Nat) : am_X P d cd rt Q pc ls st h cb sb ↔ am_step False Q (am_vc P d cd rt Q cuts n) (am_S P d) rt (am_at cd pc) ls st h cb sb :=
  (am_X_step P d cd rt Q pc ls st h cb sb).trans (am_step_rel (α := Prop) (β := Prop) (fun a b => a ↔ b) (bad := False) (bad' := False) (ret := Q) (ret' := Q) (call := am_S P d) (call' := am_S P d) Iff.rfl (fun _ _ => Iff.rfl) (fun pc ls st h cb sb => am_vc_iff P d cd rt Q cuts n pc ls st h cb sb) (fun z as h k k' hk => am_S_iff hk) rt (am_at cd pc) ls st h cb sb)
