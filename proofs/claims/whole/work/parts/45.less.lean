/-! fewer locals known: what is shown so holds with more -/
def am_lle (l1 l2 : am_l) : Prop := l1.length = l2.length ∧ ∀ k v, am_ld l1 k = some v → am_ld l2 k = some v
theorem am_sto_self (o : Option am_v) : ∀ (ls : am_l) (i : Nat), i < ls.length → am_ld (am_sto o ls i) i = o
  | [], _, h => by simp at h
  | _ :: l, 0, _ => rfl
  | _ :: l, 1, h => am_sto_self o l 0 (by simpa using h)
  | _ :: l, i + 2, h => am_sto_self o l (i + 1) (by simp at h; omega)
theorem am_sto_keep (o : Option am_v) : ∀ (ls : am_l) (i k : Nat) (w : am_v), k ≠ i → am_ld ls k = some w → ¬ (k + 1 = i ∧ am_cat w = 2) → am_ld (am_sto o ls i) k = some w
  | [], _, _, _, _, h, _ => by simp [am_ld] at h
  | _ :: l, 0, 0, _, hn, _, _ => absurd rfl hn
  | _ :: l, 0, k + 1, w, _, h, _ => h
  | a :: l, 1, 0, w, _, h, hc => by
    have h : a = some w := h
    subst h
    rcases w with x | x | x
    · rfl
    · exact absurd ⟨rfl, rfl⟩ hc
    · rfl
  | _ :: l, 1, k + 1, w, hn, h, hc => am_sto_keep o l 0 k w (by omega) h (by omega)
  | a :: l, i + 2, 0, w, _, h, _ => h
  | _ :: l, i + 2, k + 1, w, hn, h, hc => am_sto_keep o l (i + 1) k w (by omega) h (fun q => hc ⟨by omega, q.2⟩)
theorem am_lle.sto {l1 l2 : am_l} (h : am_lle l1 l2) (o : Option am_v) (i : Nat) : am_lle (am_sto o l1 i) (am_sto o l2 i) := by
  refine ⟨by rw [am_sto_len, am_sto_len]; exact h.1, fun k v hv => ?_⟩
  have hlt := am_ld_lt _ _ _ hv
  rw [am_sto_len, h.1] at hlt
  rcases am_sto_ld o l1 i k v hv with ⟨rfl, e⟩ | ⟨h1, h2, h3⟩
  · rw [am_sto_self o l2 k hlt]; exact e
  · exact am_sto_keep o l2 i k v h1 (h.2 k v h2) h3
theorem am_lle.rf (l : am_l) : am_lle l l := ⟨rfl, fun _ _ h => h⟩
set_option maxHeartbeats 4000000 in
theorem am_step_le {α β : Type} (R : α → β → Prop) {bad : α} {bad' : β} {ret : Int → am_h → α} {ret' : Int → am_h → β} {go : Nat → am_l → List am_v → am_h → Nat → Nat → α} {go' : Nat → am_l → List am_v → am_h → Nat → Nat → β}
    {call : Nat → List am_v → am_h → (Int → am_h → α) → α} {call' : Nat → List am_v → am_h → (Int → am_h → β) → β}
    (hb : ∀ y, R bad y) (hr : ∀ r h, R (ret r h) (ret' r h)) (hg : ∀ pc l1 l2 st h cb sb, am_lle l1 l2 → R (go pc l1 st h cb sb) (go' pc l2 st h cb sb)) (hc : ∀ z as h k k', (∀ r h', R (k r h') (k' r h')) → R (call z as h k) (call' z as h k'))
    (rt : Nat) (o : Option am_e) {l1 l2 : am_l} (hl : am_lle l1 l2) (st : List am_v) (h : am_h) (cb sb : Nat) : R (am_step bad ret go call rt o l1 st h cb sb) (am_step bad' ret' go' call' rt o l2 st h cb sb) := by
  cases o with
  | none => exact hb _
  | some e =>
    obtain ⟨ins, nx, v, x1, x2, x3, x4, x5, ts⟩ := e
    cases ins <;> (try exact hb _) <;> dsimp only [am_step]
    case iload k => split; · next x e => rw [hl.2 _ _ e]; exact hg _ _ _ _ _ _ _ hl
                    · exact hb _
    case iload_n k => split; · next x e => rw [hl.2 _ _ e]; exact hg _ _ _ _ _ _ _ hl
                      · exact hb _
    case lload k => split; · next x e => rw [hl.2 _ _ e]; exact hg _ _ _ _ _ _ _ hl
                    · exact hb _
    case lload_n k => split; · next x e => rw [hl.2 _ _ e]; exact hg _ _ _ _ _ _ _ hl
                      · exact hb _
    case aload k => split; · next x e => rw [hl.2 _ _ e]; exact hg _ _ _ _ _ _ _ hl
                    · exact hb _
    case aload_n k => split; · next x e => rw [hl.2 _ _ e]; exact hg _ _ _ _ _ _ _ hl
                      · exact hb _
    case iinc k c => split; · next x e => rw [hl.2 _ _ e]; exact hg _ _ _ _ _ _ _ (hl.sto _ _)
                     · exact hb _
    all_goals
      repeat' first
        | exact hb _
        | exact hr _ _
        | exact hg _ _ _ _ _ _ _ hl
        | exact hg _ _ _ _ _ _ _ (hl.sto _ _)
        | exact hg _ _ _ _ _ _ _ ((hl.sto _ _).sto _ _)
        | refine am_i1_rel R (hb _) _ (fun _ _ => ?_)
        | refine am_l1_rel R (hb _) _ (fun _ _ => ?_)
        | refine am_r1_rel R (hb _) _ (fun _ _ => ?_)
        | refine am_ob_rel R (hb _) _ _ _ (fun _ => ?_)
        | refine am_br_rel R _ _ _ ?_ ?_
        | refine am_sw_rel R _ _ _ (fun _ => ?_)
        | refine am_bif_rel R _ ?_ ?_
        | refine am_if_rel R _ ?_ ?_
        | refine hc _ _ _ _ _ (fun _ _ => ?_)
        | split
theorem am_ex_le (f : Nat → List am_v → am_h → Option (Int × am_h)) (cd : List (Nat × am_e)) (rt : Nat) : ∀ (n pc : Nat) (l1 l2 : am_l) (st : List am_v) (h : am_h) (cb sb : Nat) (x : Int × am_h), am_lle l1 l2 → am_ex f cd rt n pc l1 st h cb sb = some x → am_ex f cd rt n pc l2 st h cb sb = some x := by
  intro n
  induction n with
  | zero => intro pc l1 l2 st h cb sb x _ q; cases q
  | succ n ih =>
    intro pc l1 l2 st h cb sb x hl q
    have key := am_step_le (α := Option (Int × am_h)) (β := Option (Int × am_h)) (fun a b => ∀ x, a = some x → b = some x) (bad := none) (bad' := none) (ret := fun r h => some (r, h)) (ret' := fun r h => some (r, h)) (go := am_ex f cd rt n) (go' := am_ex f cd rt n)
      (call := fun z as h k => match f z as h with | some (r, h') => k r h' | none => none) (call' := fun z as h k => match f z as h with | some (r, h') => k r h' | none => none)
      (fun _ _ q => by cases q) (fun _ _ _ q => q) (fun pc l1 l2 st h cb sb hl x q => ih pc l1 l2 st h cb sb x hl q)
      (fun z as h k k' hk x q => by
        cases e : f z as h with
        | none => rw [e] at q; cases q
        | some y => rw [e] at q; exact hk _ _ x q)
      rt (am_at cd pc) hl st h cb sb
    exact key x q
theorem am_x_le {P : Nat → Option am_m} {g : am_g} {d : Nat} {cd : List (Nat × am_e)} {rt : Nat} {Q : Int → (Nat → Int → Int) → Prop} {pc : Nat} {st : List am_v} {M : Nat → Int → Int} {cb sb : Nat} (l1 : am_l) {l2 : am_l} (hl : am_lle l1 l2) (h : am_x P g d cd rt Q pc l1 st M cb sb) : am_x P g d cd rt Q pc l2 st M cb sb := by
  obtain ⟨F, r, M', e, q⟩ := h
  exact ⟨F, r, M', am_ex_le _ cd rt F pc l1 l2 st (g, M) cb sb _ hl e, q⟩
/-- by the lists: each place is none, or the same -/
def am_lb : am_l → am_l → Prop
  | [], [] => True
  | none :: l1, _ :: l2 => am_lb l1 l2
  | some v :: l1, b :: l2 => b = some v ∧ am_lb l1 l2
  | _, _ => False
theorem am_lb_le : ∀ (l1 l2 : am_l), am_lb l1 l2 → am_lle l1 l2
  | [], [], _ => ⟨rfl, fun k v h => by simp [am_ld] at h⟩
  | none :: l1, b :: l2, h => by
    have q := am_lb_le l1 l2 h
    refine ⟨by simp [q.1], fun k v hv => ?_⟩
    cases k with
    | zero => simp [am_ld] at hv
    | succ k => exact q.2 k v hv
  | some w :: l1, b :: l2, h => by
    obtain ⟨e, h⟩ := h
    have q := am_lb_le l1 l2 h
    refine ⟨by simp [q.1], fun k v hv => ?_⟩
    cases k with
    | zero => rw [e]; exact hv
    | succ k => exact q.2 k v hv
theorem am_x_mono {P : Nat → Option am_m} {g : am_g} {d : Nat} {cd : List (Nat × am_e)} {rt : Nat} {Q Q' : Int → (Nat → Int → Int) → Prop} {pc : Nat} {ls : am_l} {st : List am_v} {M : Nat → Int → Int} {cb sb : Nat} (h : am_x P g d cd rt Q pc ls st M cb sb) (hq : ∀ r M', Q r M' → Q' r M') : am_x P g d cd rt Q' pc ls st M cb sb := by
  obtain ⟨F, r, M', e, q⟩ := h
  exact ⟨F, r, M', e, hq r M' q⟩
