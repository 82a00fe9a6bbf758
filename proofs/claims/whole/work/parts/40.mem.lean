/-! methods that make nothing: of the heap the numbers alone change -/
/-- an entry that lays no reference; its calls are of such methods -/
def am_nsE (ns : Nat → Bool) (E : am_e) : Bool := match E with
  | (ins, _, v, x1, _, x3, _, _, _) => match ins with
    | .new _ | .newarray _ | .anewarray _ | .aastore => false
    | .putfield _ => !Nat.beq x3 2
    | .invokevirtual _ => ns x1
    | .invokestatic _ => (match v with | 1 => true | 3 => true | 4 => true | 5 => true | _ => ns x1)
    | .invokespecial _ => (match v with | 2 => true | _ => ns x1)
    | _ => true
set_option maxHeartbeats 4000000 in
theorem am_step_relM {α β : Type} (R : α → β → Prop) {ns : Nat → Bool} {g : am_g} {bad : α} {bad' : β} {ret : Int → am_h → α} {ret' : Int → am_h → β} {go : Nat → am_l → List am_v → am_h → Nat → Nat → α} {go' : Nat → am_l → List am_v → am_h → Nat → Nat → β}
    {call : Nat → List am_v → am_h → (Int → am_h → α) → α} {call' : Nat → List am_v → am_h → (Int → am_h → β) → β}
    (hb : R bad bad') (hr : ∀ r M, R (ret r (g, M)) (ret' r (g, M))) (hg : ∀ pc ls st M cb sb, R (go pc ls st (g, M) cb sb) (go' pc ls st (g, M) cb sb)) (hc : ∀ z as M k k', ns z = true → (∀ r M', R (k r (g, M')) (k' r (g, M'))) → R (call z as (g, M) k) (call' z as (g, M) k'))
    (rt : Nat) (o : Option am_e) (ho : ∀ E, o = some E → am_nsE ns E = true) (ls : am_l) (st : List am_v) (M : Nat → Int → Int) (cb sb : Nat) : R (am_step bad ret go call rt o ls st (g, M) cb sb) (am_step bad' ret' go' call' rt o ls st (g, M) cb sb) := by
  cases o with
  | none => exact hb
  | some e =>
    have hE := ho e rfl
    obtain ⟨ins, nx, v, x1, x2, x3, x4, x5, ts⟩ := e
    cases ins <;> (try exact hb) <;> dsimp only [am_nsE] at hE <;> (try (cases hE; done)) <;> dsimp only [am_step]
    case putfield k =>
      have hne : x3 ≠ 2 := fun q => by rw [q] at hE; exact absurd hE (by decide)
      match x3, hne with
      | 0, _ => exact am_i1_rel R hb _ (fun _ _ => am_r1_rel R hb _ (fun _ _ => am_ob_rel R hb _ _ _ (fun _ => hg _ _ _ _ _ _)))
      | 1, _ => exact am_l1_rel R hb _ (fun _ _ => am_r1_rel R hb _ (fun _ _ => am_ob_rel R hb _ _ _ (fun _ => hg _ _ _ _ _ _)))
      | u + 3, _ => exact am_i1_rel R hb _ (fun _ _ => am_r1_rel R hb _ (fun _ _ => am_ob_rel R hb _ _ _ (fun _ => am_if_rel R _ (hg _ _ _ _ _ _) hb)))
    case invokevirtual k =>
      split
      · exact am_bif_rel R _ (hc _ _ _ _ _ hE (fun _ _ => hg _ _ _ _ _ _)) hb
      · exact hb
    case invokestatic k =>
      split
      all_goals (try (repeat' first
        | exact hb
        | exact hg _ _ _ _ _ _
        | refine am_i1_rel R hb _ (fun _ _ => ?_)
        | refine am_l1_rel R hb _ (fun _ _ => ?_)
        | refine am_r1_rel R hb _ (fun _ _ => ?_)
        | refine am_ob_rel R hb _ _ _ (fun _ => ?_)
        | refine am_bif_rel R _ ?_ ?_
        | refine am_if_rel R _ ?_ ?_); done)
      next h1 h3 h4 h5 =>
        have hE : ns x1 = true := by
          split at hE
          · exact absurd rfl h1
          · exact absurd rfl h3
          · exact absurd rfl h4
          · exact absurd rfl h5
          · exact hE
        split
        · exact am_bif_rel R _ (hc _ _ _ _ _ hE (fun _ _ => hg _ _ _ _ _ _)) hb
        · exact hb
    case invokespecial k =>
      split
      · exact am_r1_rel R hb _ (fun _ _ => am_bif_rel R _ (hg _ _ _ _ _ _) hb)
      · next h2 =>
        have hE : ns x1 = true := by
          split at hE
          · exact absurd rfl h2
          · exact hE
        split
        · exact am_bif_rel R _ (hc _ _ _ _ _ hE (fun _ _ => hg _ _ _ _ _ _)) hb
        · exact hb
    all_goals
      repeat' first
        | exact hb
        | exact hr _ _
        | exact hg _ _ _ _ _ _
        | refine am_i1_rel R hb _ (fun _ _ => ?_)
        | refine am_l1_rel R hb _ (fun _ _ => ?_)
        | refine am_r1_rel R hb _ (fun _ _ => ?_)
        | refine am_ob_rel R hb _ _ _ (fun _ => ?_)
        | refine am_br_rel R _ _ _ ?_ ?_
        | refine am_sw_rel R _ _ _ (fun _ => ?_)
        | refine am_bif_rel R _ ?_ ?_
        | refine am_if_rel R _ ?_ ?_
        | split
/-- a program whose methods of a kind lay no reference -/
def am_nsP (P : Nat → Option am_m) (ns : Nat → Bool) : Prop := ∀ z cd mL rt mc ms, ns z = true → P z = some (cd, mL, rt, mc, ms) → ∀ q ∈ cd, am_nsE ns q.2 = true
theorem am_at_ns {ns : Nat → Bool} {cd : List (Nat × am_e)} (h : ∀ q ∈ cd, am_nsE ns q.2 = true) (pc : Nat) : ∀ E, am_at cd pc = some E → am_nsE ns E = true := fun E hE => h (pc, E) (am_at_mem cd pc E hE)
theorem am_ex_ns {ns : Nat → Bool} {f : Nat → List am_v → am_h → Option (Int × am_h)} (hf : ∀ z as h r h', ns z = true → f z as h = some (r, h') → h'.1 = h.1) {cd : List (Nat × am_e)} (hcd : ∀ q ∈ cd, am_nsE ns q.2 = true) (rt : Nat) : ∀ (n pc : Nat) (ls : am_l) (st : List am_v) (h : am_h) (cb sb : Nat) (r : Int) (h' : am_h), am_ex f cd rt n pc ls st h cb sb = some (r, h') → h'.1 = h.1 := by
  intro n
  induction n with
  | zero => intro pc ls st h cb sb r h' q; cases q
  | succ n ih =>
    intro pc ls st h cb sb r h' q
    obtain ⟨g, M⟩ := h
    have key := am_step_relM (α := Option (Int × am_h)) (β := Unit) (fun a _ => ∀ r h', a = some (r, h') → h'.1 = g) (ns := ns) (g := g) (bad := none) (bad' := ()) (ret := fun r h => some (r, h)) (ret' := fun _ _ => ()) (go := am_ex f cd rt n) (go' := fun _ _ _ _ _ _ => ()) (call := fun z as h k => match f z as h with | some (r, h') => k r h' | none => none) (call' := fun _ _ _ _ => ())
      (fun _ _ q => by cases q) (fun r M r' h' q => by cases q; rfl) (fun pc ls st M cb sb r h' q => ih pc ls st (g, M) cb sb r h' q)
      (fun z as M k _ hz hk rr hh qq => by
        cases e : f z as (g, M) with
        | none => rw [e] at qq; cases qq
        | some y =>
          rw [e] at qq
          have e1 := hf z as (g, M) y.1 y.2 hz e
          obtain ⟨y1, y2, y3⟩ := y
          have e1 : y2 = g := e1
          rw [e1] at qq
          exact hk _ _ rr hh qq)
      rt (am_at cd pc) (am_at_ns hcd pc) ls st M cb sb
    exact key r h' q
theorem am_call_ns {P : Nat → Option am_m} {ns : Nat → Bool} (hP : am_nsP P ns) : ∀ (d F z : Nat) (as : List am_v) (h : am_h) (r : Int) (h' : am_h), ns z = true → am_call P d F z as h = some (r, h') → h'.1 = h.1 := by
  intro d
  induction d with
  | zero => intro F z as h r h' _ q; cases q
  | succ d ih =>
    intro F z as h r h' hz q
    unfold am_call at q
    cases e : P z with
    | none => rw [e] at q; cases q
    | some y =>
      rw [e] at q
      obtain ⟨cd, mL, rt, mc, ms⟩ := y
      dsimp only at q
      obtain ⟨-, q⟩ := am_bif_some q
      exact am_ex_ns (fun z as h r h' hz q => ih F z as h r h' hz q) (hP z cd mL rt mc ms hz e) rt _ _ _ _ _ _ _ r h' q
/-- what a call, a place comes to: of the numbers alone -/
def am_s (P : Nat → Option am_m) (g : am_g) (d y : Nat) (args : List am_v) (M : Nat → Int → Int) (Q : Int → (Nat → Int → Int) → Prop) : Prop := ∃ F r M', am_call P d F y args (g, M) = some (r, (g, M')) ∧ Q r M'
def am_x (P : Nat → Option am_m) (g : am_g) (d : Nat) (cd : List (Nat × am_e)) (rt : Nat) (Q : Int → (Nat → Int → Int) → Prop) (pc : Nat) (ls : am_l) (st : List am_v) (M : Nat → Int → Int) (cb sb : Nat) : Prop := ∃ F r M', am_ex (am_call P d F) cd rt F pc ls st (g, M) cb sb = some (r, (g, M')) ∧ Q r M'
theorem am_s_S {P : Nat → Option am_m} {g : am_g} {d y : Nat} {args : List am_v} {M : Nat → Int → Int} {Q : Int → am_h → Prop} (h : am_s P g d y args M (fun r M' => Q r (g, M'))) : am_S P d y args (g, M) Q := by
  obtain ⟨F, r, M', e, q⟩ := h
  exact ⟨F, r, (g, M'), e, q⟩
theorem am_s_mono {P : Nat → Option am_m} {g : am_g} {d d' y : Nat} {args : List am_v} {M : Nat → Int → Int} {Q Q' : Int → (Nat → Int → Int) → Prop} (hd : d ≤ d') (hs : am_s P g d y args M Q) (hq : ∀ r M', Q r M' → Q' r M') : am_s P g d' y args M Q' := by
  obtain ⟨F, r, M', he, hq0⟩ := hs
  exact ⟨F, r, M', am_call_mono P d d' F F hd (Nat.le_refl _) _ _ _ _ he, hq r M' hq0⟩
theorem am_s_iff {P : Nat → Option am_m} {g : am_g} {d y : Nat} {args : List am_v} {M : Nat → Int → Int} {Q Q' : Int → (Nat → Int → Int) → Prop} (hq : ∀ r M', Q r M' ↔ Q' r M') : am_s P g d y args M Q ↔ am_s P g d y args M Q' := ⟨fun q => am_s_mono (Nat.le_refl _) q (fun r h' => (hq r h').mp), fun q => am_s_mono (Nat.le_refl _) q (fun r h' => (hq r h').mpr)⟩
theorem am_x_step {P : Nat → Option am_m} {ns : Nat → Bool} (hP : am_nsP P ns) (g : am_g) (d : Nat) {cd : List (Nat × am_e)} (hcd : ∀ q ∈ cd, am_nsE ns q.2 = true) (rt : Nat) (Q : Int → (Nat → Int → Int) → Prop) (pc : Nat) (ls : am_l) (st : List am_v) (M : Nat → Int → Int) (cb sb : Nat) :
    am_x P g d cd rt Q pc ls st M cb sb ↔ am_step False (fun r h => Q r h.2) (fun pc ls st h cb sb => am_x P g d cd rt Q pc ls st h.2 cb sb) (fun z as h k => am_s P g d z as h.2 (fun r M' => k r (g, M'))) rt (am_at cd pc) ls st (g, M) cb sb := by
  have hX : am_x P g d cd rt Q pc ls st M cb sb ↔ am_X P d cd rt (fun r h => h.1 = g ∧ Q r h.2) pc ls st (g, M) cb sb := by
    constructor
    · rintro ⟨F, r, M', e, q⟩
      exact ⟨F, r, (g, M'), e, rfl, q⟩
    · rintro ⟨F, r, ⟨g', M'⟩, e, q1, q2⟩
      have q1 : g' = g := q1
      subst q1
      exact ⟨F, r, M', e, q2⟩
  rw [hX, am_X_step]
  refine am_step_relM (fun a b => a ↔ b) (ns := ns) (g := g) Iff.rfl (fun r M => ⟨fun q => q.2, fun q => ⟨rfl, q⟩⟩) (fun pc ls st M cb sb => ?_) (fun z as M k k' hz hk => ?_) rt (am_at cd pc) (am_at_ns hcd pc) ls st M cb sb
  · constructor
    · rintro ⟨F, r, ⟨g', M'⟩, e, q1, q2⟩
      have q1 : g' = g := q1
      subst q1
      exact ⟨F, r, M', e, q2⟩
    · rintro ⟨F, r, M', e, q⟩
      exact ⟨F, r, (g, M'), e, rfl, q⟩
  · constructor
    · rintro ⟨F, r, h1, e, q⟩
      have e1 : h1.1 = g := am_call_ns hP d F z as (g, M) r h1 hz e
      obtain ⟨g', M'⟩ := h1
      have e1 : g' = g := e1
      subst e1
      exact ⟨F, r, M', e, (hk r M').mp q⟩
    · rintro ⟨F, r, M', e, q⟩
      exact ⟨F, r, (g, M'), e, (hk r M').mpr q⟩
theorem am_s_eq {P : Nat → Option am_m} (g : am_g) (d y : Nat) (args : List am_v) (M : Nat → Int → Int) (Q : Int → (Nat → Int → Int) → Prop) {cd : List (Nat × am_e)} {mL rt mc ms : Nat} (hy : P y = some (cd, mL, rt, mc, ms)) (hw : Nat.ble (am_wds args) mL = true) : am_s P g (d + 1) y args M Q ↔ am_x P g d cd rt Q 0 (am_loc args mL) [] M mc ms := by
  unfold am_s am_x am_call
  rw [hy]
  dsimp only
  rw [hw]
  exact Iff.rfl
def am_w (P : Nat → Option am_m) (g : am_g) (d : Nat) (cd : List (Nat × am_e)) (rt : Nat) (Q : Int → (Nat → Int → Int) → Prop) (cuts : List Nat) : Nat → Nat → am_l → List am_v → am_h → Nat → Nat → Prop
  | 0, pc, ls, st, h, cb, sb => am_x P g d cd rt Q pc ls st h.2 cb sb
  | n + 1, pc, ls, st, h, cb, sb => bif cuts.any (Nat.beq pc) then am_x P g d cd rt Q pc ls st h.2 cb sb else am_step False (fun r h => Q r h.2) (am_w P g d cd rt Q cuts n) (fun z as h k => am_s P g d z as h.2 (fun r M' => k r (g, M'))) rt (am_at cd pc) ls st (g, h.2) cb sb
theorem am_w_iff {P : Nat → Option am_m} {ns : Nat → Bool} (hP : am_nsP P ns) (g : am_g) (d : Nat) {cd : List (Nat × am_e)} (hcd : ∀ q ∈ cd, am_nsE ns q.2 = true) (rt : Nat) (Q : Int → (Nat → Int → Int) → Prop) (cuts : List Nat) : ∀ n pc ls st M cb sb, am_x P g d cd rt Q pc ls st M cb sb ↔ am_w P g d cd rt Q cuts n pc ls st (g, M) cb sb := by
  intro n
  induction n with
  | zero => intro pc ls st M cb sb; exact Iff.rfl
  | succ n ih =>
    intro pc ls st M cb sb
    unfold am_w
    cases cuts.any (Nat.beq pc) with
    | true => exact Iff.rfl
    | false => exact (am_x_step hP g d hcd rt Q pc ls st M cb sb).trans (am_step_relM (α := Prop) (β := Prop) (fun a b => a ↔ b) (ns := ns) (g := g) (bad := False) (bad' := False) (ret := fun r h => Q r h.2) (ret' := fun r h => Q r h.2) (go := fun pc ls st h cb sb => am_x P g d cd rt Q pc ls st h.2 cb sb) (go' := am_w P g d cd rt Q cuts n) (call := fun z as h k => am_s P g d z as h.2 (fun r M' => k r (g, M'))) (call' := fun z as h k => am_s P g d z as h.2 (fun r M' => k r (g, M'))) Iff.rfl (fun _ _ => Iff.rfl) (fun pc ls st M cb sb => ih pc ls st M cb sb) (fun z as M k k' _ hk => am_s_iff (fun r M' => hk r M')) rt (am_at cd pc) (am_at_ns hcd pc) ls st M cb sb)
/-- from a place: one step, then up to the cuts -/
theorem am_w_from {P : Nat → Option am_m} {ns : Nat → Bool} (hP : am_nsP P ns) (g : am_g) (d : Nat) {cd : List (Nat × am_e)} (hcd : ∀ q ∈ cd, am_nsE ns q.2 = true) (rt : Nat) (Q : Int → (Nat → Int → Int) → Prop) (cuts : List Nat) (n pc : Nat) (ls : am_l) (st : List am_v) (M : Nat → Int → Int) (cb sb : Nat) : am_x P g d cd rt Q pc ls st M cb sb ↔ am_step False (fun r h => Q r h.2) (am_w P g d cd rt Q cuts n) (fun z as h k => am_s P g d z as h.2 (fun r M' => k r (g, M'))) rt (am_at cd pc) ls st (g, M) cb sb :=
  (am_x_step hP g d hcd rt Q pc ls st M cb sb).trans (am_step_relM (α := Prop) (β := Prop) (fun a b => a ↔ b) (ns := ns) (g := g) (bad := False) (bad' := False) (ret := fun r h => Q r h.2) (ret' := fun r h => Q r h.2) (go := fun pc ls st h cb sb => am_x P g d cd rt Q pc ls st h.2 cb sb) (go' := am_w P g d cd rt Q cuts n) (call := fun z as h k => am_s P g d z as h.2 (fun r M' => k r (g, M'))) (call' := fun z as h k => am_s P g d z as h.2 (fun r M' => k r (g, M'))) Iff.rfl (fun _ _ => Iff.rfl) (fun pc ls st M cb sb => am_w_iff hP g d hcd rt Q cuts n pc ls st M cb sb) (fun z as M k k' _ hk => am_s_iff (fun r M' => hk r M')) rt (am_at cd pc) (am_at_ns hcd pc) ls st M cb sb)
