/-! two plans of the cells that agree where they are looked at: the same answers -/
def am_agr (bd : Nat → Nat) (g g' : am_g) : Prop := g.1 = g'.1 ∧ ∀ k, k < g'.1 → g.2.1 k = g'.2.1 k ∧ ((g'.2.1 k).1 = 3 ∨ (g'.2.1 k).1 = 4 → (g'.2.1 k).2 ≤ bd (g'.2.1 k).1) ∧ ∀ i : Nat, i < bd (g'.2.1 k).1 → g.2.2 k (i : Int) = g'.2.2 k (i : Int)
def am_fE (bd : Nat → Nat) (E : am_e) : Bool := match E with
  | (ins, _, _, x1, x2, _, _, _, _) => match ins with
    | .getfield _ => Nat.blt x2 (bd (x1 + 5))
    | .aaload => Nat.beq x1 3 || Nat.beq x1 4
    | _ => true
theorem am_ob_agr {α β : Type} (R : α → β → Prop) {bad : α} {bad' : β} (hb : R bad bad') {bd : Nat → Nat} {g g' : am_g} (hg : am_agr bd g g') (r x : Nat) {f : Nat → α} {f' : Nat → β} (hf : ∀ k, k < g'.1 → (g'.2.1 k).1 = x → g.2.1 k = g'.2.1 k → R (f k) (f' k)) : R (am_ob bad g r x f) (am_ob bad' g' r x f') := by
  unfold am_ob
  split
  · exact hb
  · next k =>
    rw [hg.1]
    cases hk : Nat.blt k g'.1 with
    | false => exact hb
    | true =>
      have hk' : k < g'.1 := Nat.le_of_ble_eq_true hk
      have e := (hg.2 k hk').1
      rw [e]
      cases hx : Nat.beq (g'.2.1 k).1 x with
      | false => exact hb
      | true => exact hf k hk' (Nat.eq_of_beq_eq_true hx) e
theorem am_isR_agr {bd : Nat → Nat} {g g' : am_g} (hg : am_agr bd g g') (x : Nat) (as : List am_v) : am_isR g x as = am_isR g' x as := by
  unfold am_isR
  split
  · next k l =>
    rw [hg.1]
    cases hk : Nat.blt k g'.1 with
    | false => rfl
    | true => rw [(hg.2 k (Nat.le_of_ble_eq_true hk)).1]
  · rfl
set_option maxHeartbeats 8000000 in
theorem am_step_relG {α β : Type} (R : α → β → Prop) {ns : Nat → Bool} {bd : Nat → Nat} {g g' : am_g} (hag : am_agr bd g g') {bad : α} {bad' : β} {ret : Int → am_h → α} {ret' : Int → am_h → β} {go : Nat → am_l → List am_v → am_h → Nat → Nat → α} {go' : Nat → am_l → List am_v → am_h → Nat → Nat → β}
    {call : Nat → List am_v → am_h → (Int → am_h → α) → α} {call' : Nat → List am_v → am_h → (Int → am_h → β) → β}
    (hb : R bad bad') (hr : ∀ r M, R (ret r (g, M)) (ret' r (g', M))) (hg : ∀ pc ls st M cb sb, R (go pc ls st (g, M) cb sb) (go' pc ls st (g', M) cb sb)) (hc : ∀ z as M k k', ns z = true → (∀ r M', R (k r (g, M')) (k' r (g', M'))) → R (call z as (g, M) k) (call' z as (g', M) k'))
    (rt : Nat) (o : Option am_e) (ho : ∀ E, o = some E → am_nsE ns E = true ∧ am_fE bd E = true) (ls : am_l) (st : List am_v) (M : Nat → Int → Int) (cb sb : Nat) : R (am_step bad ret go call rt o ls st (g, M) cb sb) (am_step bad' ret' go' call' rt o ls st (g', M) cb sb) := by
  cases o with
  | none => exact hb
  | some e =>
    obtain ⟨hE, hF⟩ := ho e rfl
    obtain ⟨ins, nx, v, x1, x2, x3, x4, x5, ts⟩ := e
    cases ins <;> (try exact hb) <;> dsimp only [am_nsE] at hE <;> (try (cases hE; done)) <;> dsimp only [am_step]
    case getfield k =>
      dsimp only [am_fE] at hF
      have hF : x2 < bd (x1 + 5) := Nat.le_of_ble_eq_true hF
      refine am_r1_rel R hb _ (fun _ _ => am_ob_agr R hb hag _ _ (fun q hq hx _ => ?_))
      match x3 with
      | 0 => exact hg _ _ _ _ _ _
      | 1 => exact hg _ _ _ _ _ _
      | 2 =>
        try dsimp only
        rw [(hag.2 q hq).2.2 x2 (by rw [hx]; exact hF)]
        exact hg _ _ _ _ _ _
      | u + 3 => exact hg _ _ _ _ _ _
    case putfield k =>
      have hne : x3 ≠ 2 := fun q => by rw [q] at hE; exact absurd hE (by decide)
      match x3, hne with
      | 0, _ => exact am_i1_rel R hb _ (fun _ _ => am_r1_rel R hb _ (fun _ _ => am_ob_agr R hb hag _ _ (fun _ _ _ _ => hg _ _ _ _ _ _)))
      | 1, _ => exact am_l1_rel R hb _ (fun _ _ => am_r1_rel R hb _ (fun _ _ => am_ob_agr R hb hag _ _ (fun _ _ _ _ => hg _ _ _ _ _ _)))
      | u + 3, _ => exact am_i1_rel R hb _ (fun _ _ => am_r1_rel R hb _ (fun _ _ => am_ob_agr R hb hag _ _ (fun _ _ _ _ => am_if_rel R _ (hg _ _ _ _ _ _) hb)))
    case aaload =>
      dsimp only [am_fE] at hF
      rw [Bool.or_eq_true] at hF
      refine am_i1_rel R hb _ (fun i _ => am_r1_rel R hb _ (fun _ _ => am_ob_agr R hb hag _ _ (fun q hq hx e => ?_)))
      try dsimp only
      rw [e]
      by_cases hi : 0 ≤ i ∧ i < ((g'.2.1 q).2 : Int)
      · rw [if_pos hi, if_pos hi]
        have h64 : (g'.2.1 q).2 ≤ bd (g'.2.1 q).1 := (hag.2 q hq).2.1 (by rw [hx]; exact hF.imp Nat.eq_of_beq_eq_true Nat.eq_of_beq_eq_true)
        obtain ⟨j, rfl⟩ : ∃ j : Nat, i = (j : Int) := ⟨i.toNat, by omega⟩
        rw [(hag.2 q hq).2.2 j (by omega)]
        exact hg _ _ _ _ _ _
      · rw [if_neg hi, if_neg hi]; exact hb
    case invokevirtual k =>
      split
      · rw [am_isR_agr hag]
        exact am_bif_rel R _ (hc _ _ _ _ _ hE (fun _ _ => hg _ _ _ _ _ _)) hb
      · exact hb
    case invokestatic k =>
      split
      · refine am_i1_rel R hb _ (fun _ _ => am_i1_rel R hb _ (fun _ _ => am_r1_rel R hb _ (fun _ _ => am_i1_rel R hb _ (fun _ _ => am_r1_rel R hb _ (fun _ _ => am_ob_agr R hb hag _ _ (fun q hq hx e => am_ob_agr R hb hag _ _ (fun q2 hq2 hx2 e2 => ?_)))))))
        try dsimp only
        rw [e, e2]
        exact am_bif_rel R _ (am_if_rel R _ (hg _ _ _ _ _ _) hb) hb
      · exact am_i1_rel R hb _ (fun _ _ => am_i1_rel R hb _ (fun _ _ => am_bif_rel R _ (hg _ _ _ _ _ _) hb))
      · exact am_i1_rel R hb _ (fun _ _ => am_i1_rel R hb _ (fun _ _ => am_bif_rel R _ (hg _ _ _ _ _ _) hb))
      · exact am_l1_rel R hb _ (fun _ _ => am_l1_rel R hb _ (fun _ _ => am_bif_rel R _ (hg _ _ _ _ _ _) hb))
      next h1 h3 h4 h5 =>
        have hE : ns x1 = true := by
          split at hE
          · exact absurd rfl h1
          · exact absurd rfl h3
          · exact absurd rfl h4
          · exact absurd rfl h5
          · exact hE
        split
        · exact am_bif_rel R _ (hc _ _ _ _ _ hE (fun _ _ => hg _ _ _ _ _ _)) hb
        · exact hb
    case invokespecial k =>
      split
      · exact am_r1_rel R hb _ (fun _ _ => am_bif_rel R _ (hg _ _ _ _ _ _) hb)
      · next h2 =>
        have hE : ns x1 = true := by
          split at hE
          · exact absurd rfl h2
          · exact hE
        split
        · rw [am_isR_agr hag]
          exact am_bif_rel R _ (hc _ _ _ _ _ hE (fun _ _ => hg _ _ _ _ _ _)) hb
        · exact hb
    all_goals
      repeat' first
        | exact hb
        | exact hr _ _
        | exact hg _ _ _ _ _ _
        | refine am_i1_rel R hb _ (fun _ _ => ?_)
        | refine am_l1_rel R hb _ (fun _ _ => ?_)
        | refine am_r1_rel R hb _ (fun _ _ => ?_)
        | (refine am_ob_agr R hb hag _ _ (fun q hq hx e => ?_); (try dsimp only); (try rw [e]))
        | refine am_br_rel R _ _ _ ?_ ?_
        | refine am_sw_rel R _ _ _ (fun _ => ?_)
        | refine am_bif_rel R _ ?_ ?_
        | refine am_if_rel R _ ?_ ?_
        | split
def am_nfP (P : Nat → Option am_m) (ns : Nat → Bool) (bd : Nat → Nat) : Prop := ∀ z cd mL rt mc ms, ns z = true → P z = some (cd, mL, rt, mc, ms) → ∀ q ∈ cd, am_nsE ns q.2 = true ∧ am_fE bd q.2 = true
theorem am_call_agr {P : Nat → Option am_m} {ns : Nat → Bool} {bd : Nat → Nat} (hP : am_nfP P ns bd) {g g' : am_g} (hag : am_agr bd g g') : ∀ (d F z : Nat) (as : List am_v) (M : Nat → Int → Int) (r : Int) (M' : Nat → Int → Int), ns z = true → am_call P d F z as (g', M) = some (r, (g', M')) → am_call P d F z as (g, M) = some (r, (g, M')) := by
  have hnsP : am_nsP P ns := fun z cd mL rt mc ms hz he q hq => (hP z cd mL rt mc ms hz he q hq).1
  intro d
  induction d with
  | zero => intro F z as M r M' _ q; cases q
  | succ d ih =>
    intro F z as M r M' hz q
    unfold am_call at q ⊢
    cases e : P z with
    | none => rw [e] at q; cases q
    | some y =>
      rw [e] at q
      obtain ⟨cd, mL, rt, mc, ms⟩ := y
      dsimp only at q ⊢
      obtain ⟨hw, q⟩ := am_bif_some q
      rw [hw]
      have hcd := hP z cd mL rt mc ms hz e
      have main : ∀ (n pc : Nat) (ls : am_l) (st : List am_v) (M : Nat → Int → Int) (cb sb : Nat) (r : Int) (M' : Nat → Int → Int), am_ex (am_call P d F) cd rt n pc ls st (g', M) cb sb = some (r, (g', M')) → am_ex (am_call P d F) cd rt n pc ls st (g, M) cb sb = some (r, (g, M')) := by
        intro n
        induction n with
        | zero => intro pc ls st M cb sb r M' q; cases q
        | succ n ihn =>
          intro pc ls st M cb sb r M' q
          have key := am_step_relG (α := Option (Int × am_h)) (β := Option (Int × am_h)) (fun a b => ∀ r M', b = some (r, (g', M')) → a = some (r, (g, M'))) hag (ns := ns) (bad := none) (bad' := none) (ret := fun r h => some (r, h)) (ret' := fun r h => some (r, h)) (go := am_ex (am_call P d F) cd rt n) (go' := am_ex (am_call P d F) cd rt n)
            (call := fun z as h k => match am_call P d F z as h with | some (r, h') => k r h' | none => none) (call' := fun z as h k => match am_call P d F z as h with | some (r, h') => k r h' | none => none)
            (fun _ _ q => by cases q) (fun r M r' M' q => by cases q; rfl) (fun pc ls st M cb sb r M' q => ihn pc ls st M cb sb r M' q)
            (fun z as M k k' hz hk rr MM qq => by
              cases ec : am_call P d F z as (g', M) with
              | none => rw [ec] at qq; cases qq
              | some y =>
                rw [ec] at qq
                have e1 := am_call_ns hnsP d F z as (g', M) y.1 y.2 hz ec
                obtain ⟨y1, y2, y3⟩ := y
                have e1 : y2 = g' := e1
                rw [e1] at ec qq
                rw [ih F z as M y1 y3 hz ec]
                exact hk y1 y3 rr MM qq)
            rt (am_at cd pc) (fun E hE => hcd (pc, E) (am_at_mem cd pc E hE)) ls st M cb sb
          exact key r M' q
      exact main F 0 (am_loc as mL) [] M mc ms r M' q
/-- from the numbers to the whole heap, over a plan that agrees -/
theorem am_s_use {P : Nat → Option am_m} {ns : Nat → Bool} {bd : Nat → Nat} (hP : am_nfP P ns bd) {g g' : am_g} (hag : am_agr bd g g') {d z : Nat} (hz : ns z = true) {as : List am_v} {M : Nat → Int → Int} {Q : Int → (Nat → Int → Int) → Prop} (h : am_s P g' d z as M Q) : am_S P d z as (g, M) (fun r h' => h'.1 = g ∧ Q r h'.2) := by
  obtain ⟨F, r, M', e, q⟩ := h
  exact ⟨F, r, (g, M'), am_call_agr hP hag d F z as M r M' hz e, rfl, q⟩
