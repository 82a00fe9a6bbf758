/-! the class: who has a pair -/
section S99
variable {B : Nat → Nat} {M M0 : (Nat → Int → Int)} {d : Nat} {Q : Int → (Nat → Int → Int) → Prop} {P : Nat → Prop}
theorem x_bitsP {v : Int} {P : Nat → Prop} (h : bs v P) (hQ : Q ((cnt (dc P) 32 : Nat) : Int) M) : am_s am_P am_gg (d + 1) 353 [.inl v] M Q := by
  obtain ⟨n, h1, h2, h3⟩ := h
  rw [h2]
  refine x_bitsn h1 ?_
  rw [cnt_congr (p := n.testBit) (q := dc P) (fun k hk => ?_)]
  · exact hQ
  · cases e : n.testBit k with
    | true => exact (dc_iff.mpr ((h3 k).mp e)).symm
    | false => exact (dc_f (fun z => by rw [(h3 k).mpr z] at e; cases e)).symm
/-- the least bit of a set, and the set without it -/
theorem bs_low {v : Int} {P : Nat → Prop} (h : bs v P) (hpos : 0 < cnt (dc P) 32) : ∃ t, t < 31 ∧ P t ∧ (∀ k, k < t → ¬ P k) ∧ bs (i_and v (w32 (v - 1))) (fun k => P k ∧ k ≠ t) ∧ cnt (dc P) 32 = cnt (dc (fun k => P k ∧ k ≠ t)) 32 + 1 ∧ ∀ {d : Nat} {M : (Nat → Int → Int)} {Q : Int → (Nat → Int → Int) → Prop}, Q (t : Int) M → am_s am_P am_gg (d + 1) 352 [.inl v] M Q := by
  obtain ⟨n, h1, h2, h3⟩ := h
  obtain ⟨k0, hk0, hd0⟩ := cnt_pos.mp hpos
  have hn0 : n ≠ 0 := fun z => by
    have := (h3 k0).mpr (dc_iff.mp hd0)
    rw [z, Nat.zero_testBit] at this; cases this
  obtain ⟨t, t1, t0⟩ := b_low hn0
  have ht : t < 31 := by
    by_cases q : t < 31
    · exact q
    · have := Nat.testBit_lt_two_pow (Nat.lt_of_lt_of_le (show n < 2 ^ 31 from h1) (Nat.pow_le_pow_right (by decide) (Nat.le_of_not_lt q)))
      rw [this] at t1; cases t1
  refine ⟨t, ht, (h3 t).mp t1, fun k hk z => ?_, ?_, ?_, fun {d M Q} hQ => ?_⟩
  · have := t0 k hk
    rw [(h3 k).mpr z] at this; cases this
  · refine ⟨n &&& (n - 1), Nat.lt_of_le_of_lt Nat.and_le_left h1, ?_, fun k => ?_⟩
    · have e1 : i_and (n : Int) ((n - 1 : Nat) : Int) = ((n &&& (n - 1) : Nat) : Int) := i_and_nat h1 (by omega)
      rw [h2, show w32 ((n : Int) - 1) = ((n - 1 : Nat) : Int) by rw [w32_i (by omega) (by omega)]; omega, e1]
    · rw [b_drop t1 t0, Bool.and_eq_true, h3 k]; simp
  · have := cnt_add (p := dc (fun k => P k ∧ k ≠ t)) (q := dc P) (t := t) (dc_f (fun z => z.2 rfl)) (dc_iff.mpr ((h3 t).mp t1)) (fun k hk => dc_congr ⟨fun z => z.1, fun z => ⟨z, hk⟩⟩) (n := 32) (by omega)
    exact this
  · have := x_ntz (d := d) (M := M) (Q := Q) (n := n) (t := t) (by omega) t1 t0 hQ
    rw [w32_i (by omega) (by omega)] at this
    rw [h2]; exact this
theorem inF_iff {k f : Nat} (hk : k < gN B) : cd (gp B) k / 16 = f ↔ cnt (gp B) (16 * f) ≤ k ∧ k < cnt (gp B) (16 * (f + 1)) := by
  obtain ⟨c1, c2, c3⟩ := cdP hk
  have c2 := gp_iff.mpr c2
  constructor
  · intro e
    have h1 := cnt_le_of (p := gp B) (c := 16 * f) (n := cd (gp B) k) (by omega)
    have h2 := cnt_lt_of c2 (n := 16 * (f + 1)) (by omega)
    omega
  · intro ⟨h1, h2⟩
    by_cases a : cd (gp B) k < 16 * f
    · have := cnt_lt_of c2 a
      omega
    · by_cases b : 16 * (f + 1) ≤ cd (gp B) k
      · have := cnt_le_of (p := gp B) b
        omega
      · omega
/-- those listed with their frame and a second rule -/
theorem x_listSeconds (h0 : pOK B M0) {f : Nat} (hf : f < 64) {T P : Nat → Prop} {v : Int} (hv : bs v T) (hT : ∀ r, T r → r < 16) (hP : ∀ k, P k → k < gN B ∧ cd (gp B) k / 16 ≠ f) (fr : wF1 98 M0 M) (hl : lst 98 P M) (hQ : ∀ M', wF1 98 M0 M' → lst 98 (fun k => P k ∨ k < gN B ∧ cd (gp B) k / 16 = f ∧ T (cd (gp B) k % 16)) M' → Q ((cnt (dc (fun k => P k ∨ k < gN B ∧ cd (gp B) k / 16 = f ∧ T (cd (gp B) k % 16))) 1024 : Nat) : Int) M') : am_s am_P am_gg (d + 2) 102 [.inr (.inr 82), .inl (f : Int), .inl v, .inr (.inr 99), .inl ((cnt (dc P) 1024 : Nat) : Int)] M Q := by
  have n2 := gN_le (B := B)
  refine (v_102_82_99 _ _ _ _ _ _).mpr ?_
  refine x_bitsP hv ?_
  have lp : ∀ (m : Nat) (u : Int) (R P : Nat → Prop) (M : (Nat → Int → Int)), m = cnt (dc R) 32 → bs u R → (∀ r, R r → T r) → wF1 98 M0 M → lst 98 P M → (∀ k, P k → k < gN B) → (∀ k, k < gN B → cd (gp B) k / 16 = f → R (cd (gp B) k % 16) → ¬ P k) → (∀ M', wF1 98 M0 M' → lst 98 (fun k => P k ∨ k < gN B ∧ cd (gp B) k / 16 = f ∧ R (cd (gp B) k % 16)) M' → Q ((cnt (dc (fun k => P k ∨ k < gN B ∧ cd (gp B) k / 16 = f ∧ R (cd (gp B) k % 16))) 1024 : Nat) : Int) M') → am_x am_P am_gg (d + 1) am_k102 1 Q 13 [some (.inr (.inr 82)), some (.inl ((f : Int))), none, some (.inr (.inr 99)), none, some (.inl (((cnt (dc P) 1024 : Nat) : Int))), some (.inl (u)), some (.inl ((m : Int))), none] [] M 0 0 := by
    intro m
    induction m with
    | zero =>
      intro u R P M hm hu hR f1 l1 hP1 hd hQ1
      refine (h_102_13_82_99 _ _ _ _ _ _ _).mpr ?_
      rw [if_neg (by omega)]
      have e : ∀ k, k < 1024 → (P k ↔ (P k ∨ k < gN B ∧ cd (gp B) k / 16 = f ∧ R (cd (gp B) k % 16))) := fun k _ => ⟨Or.inl, fun z => z.elim id (fun z => absurd ((cnt_pos (p := dc R) (n := 32)).mpr ⟨cd (gp B) k % 16, by omega, dc_iff.mpr z.2.2⟩) (by omega))⟩
      rw [cnt_cg e]
      exact hQ1 M f1 (lst_cong l1 e)
    | succ m ih =>
      intro u R P M hm hu hR f1 l1 hP1 hd hQ1
      obtain ⟨t, ht, t1, t0, lv, lc, ln⟩ := bs_low hu (by omega)
      have t16 := hT t (hR t t1)
      have cl := cnt_le (p := dc R) 32
      have h1 : pOK B M := pOK_eq h0 (fun c a b => f1 c (by omega))
      have e83 := h1.1.1.2.1 (16 * f + t) (by omega)
      refine (h_102_13_82_99 _ _ _ _ _ _ _).mpr ?_
      rw [if_pos (by omega)]
      refine ln ?_
      rw [w32_16 (w := t) hf t16, e83, show w32 (((m + 1 : Nat) : Int) + -1) = (m : Int) by rw [w32_i (by omega) (by omega)]; omega]
      rw [if_pos (by omega)]
      by_cases hg : gp B (16 * f + t) = true
      · have hlt := cnt_lt_of hg (n := 1024) (by omega)
        have hlt2 : cnt (gp B) (16 * f + t) < gN B := hlt
        have ecd := cd_cnt (p := gp B) (c := 16 * f + t) (by omega) hg
        rw [if_pos (show 16 * f + t < 1024 ∧ gp B (16 * f + t) = true from ⟨by omega, hg⟩), if_neg (by omega)]
        generalize hq : cnt (gp B) (16 * f + t) = q at *
        refine x_listOne_98 l1 (by omega) (hd q hlt2 (by omega) (by rw [ecd, show (16 * f + t) % 16 = t by omega]; exact t1)) (fun M2 f2 l2 => ?_)
        refine am_x_le [some (.inr (.inr 82)), some (.inl ((f : Int))), none, some (.inr (.inr 99)), none, some (.inl (((cnt (dc (fun m => P m ∨ m = q)) 1024 : Nat) : Int))), some (.inl ((i_and u (w32 (u - 1))))), some (.inl ((m : Int))), none] (am_lb_le _ _ ⟨rfl, rfl, rfl, rfl, rfl, rfl, trivial⟩) ?_
        have e : ∀ k, ((P k ∨ k = q) ∨ k < gN B ∧ cd (gp B) k / 16 = f ∧ R (cd (gp B) k % 16) ∧ cd (gp B) k % 16 ≠ t) ↔ (P k ∨ k < gN B ∧ cd (gp B) k / 16 = f ∧ R (cd (gp B) k % 16)) := fun k => by
          constructor
          · rintro ((z | z) | z)
            · exact Or.inl z
            · rw [z, ecd]
              exact Or.inr ⟨hlt2, by omega, by rw [show (16 * f + t) % 16 = t by omega]; exact t1⟩
            · exact Or.inr ⟨z.1, z.2.1, z.2.2.1⟩
          · rintro (z | z)
            · exact Or.inl (Or.inl z)
            · by_cases y : cd (gp B) k % 16 = t
              · refine Or.inl (Or.inr (cd_inj z.1 hlt2 ?_))
                rw [ecd]; have := z.2.1; omega
              · exact Or.inr ⟨z.1, z.2.1, z.2.2, y⟩
        refine ih _ (fun k => R k ∧ k ≠ t) (fun m => P m ∨ m = q) M2 (by omega) lv (fun r z => hR r z.1) (fun c hc => by rw [f2 c hc]; exact f1 c hc) l2 (fun k z => z.elim (hP1 k) (fun z => by omega)) (fun k z1 z2 z3 z4 => ?_) (fun M3 f3 l3 => ?_)
        · rcases z4 with z4 | z4
          · exact hd k z1 z2 z3.1 z4
          · rw [z4, ecd] at z3
            exact z3.2 (by omega)
        · have e' : ∀ k, ((P k ∨ k = q) ∨ k < gN B ∧ cd (gp B) k / 16 = f ∧ (R (cd (gp B) k % 16) ∧ cd (gp B) k % 16 ≠ t)) ↔ (P k ∨ k < gN B ∧ cd (gp B) k / 16 = f ∧ R (cd (gp B) k % 16)) := e
          rw [cnt_cg (fun k _ => e' k)]
          exact hQ1 M3 f3 (lst_cong l3 (fun k _ => e' k))
      · rw [if_neg (fun z : _ ∧ _ => hg z.2), if_pos rfl]
        refine am_x_le [some (.inr (.inr 82)), some (.inl ((f : Int))), none, some (.inr (.inr 99)), none, some (.inl (((cnt (dc P) 1024 : Nat) : Int))), some (.inl ((i_and u (w32 (u - 1))))), some (.inl ((m : Int))), none] (am_lb_le _ _ ⟨rfl, rfl, rfl, rfl, rfl, rfl, trivial⟩) ?_
        have e : ∀ k, (P k ∨ k < gN B ∧ cd (gp B) k / 16 = f ∧ (R (cd (gp B) k % 16) ∧ cd (gp B) k % 16 ≠ t)) ↔ (P k ∨ k < gN B ∧ cd (gp B) k / 16 = f ∧ R (cd (gp B) k % 16)) := fun k => or_congr Iff.rfl (and_congr_right (fun z1 => and_congr_right (fun z2 => ⟨fun z => z.1, fun z => ⟨z, fun y => hg (by
          have := gp_iff.mpr (cdP z1).2.1
          rw [show cd (gp B) k = 16 * f + t by omega] at this; exact this)⟩⟩)))
        refine ih _ (fun k => R k ∧ k ≠ t) P M (by omega) lv (fun r z => hR r z.1) f1 l1 hP1 (fun k z1 z2 z3 z4 => hd k z1 z2 z3.1 z4) (fun M3 f3 l3 => ?_)
        rw [cnt_cg (fun k _ => e k)]
        exact hQ1 M3 f3 (lst_cong l3 (fun k _ => e k))
  refine am_x_le [some (.inr (.inr 82)), some (.inl ((f : Int))), none, some (.inr (.inr 99)), none, some (.inl (((cnt (dc P) 1024 : Nat) : Int))), some (.inl (v)), some (.inl (((cnt (dc T) 32 : Nat) : Int))), none] (am_lb_le _ _ ⟨rfl, rfl, rfl, rfl, rfl, rfl, trivial⟩) ?_
  exact lp _ v T P M rfl hv (fun _ z => z) fr hl (fun k z => (hP k z).1) (fun k _ z2 _ z4 => (hP k z4).2 z2) hQ
theorem ld_nz {v : Int} {P : Nat → Prop} (h : ld v P) (e : l_cmp v 0 = 0) : ∀ k, k < 64 → ¬ P k := by
  intro k hk z
  obtain ⟨n, h1, h2, h3⟩ := h
  have hv : v = 0 := by unfold l_cmp at e; split at e <;> first | omega | (split at e <;> omega)
  have n0 : n = 0 := by rw [hv] at h2; unfold w64 at h2; omega
  have := (h3 k hk).mpr z
  rw [n0, Nat.zero_testBit] at this; cases this
/-- those that have a pair (itself left aside), among the first frames -/
def hS (B : Nat → Nat) (φ : Nat → Nat) (m i k : Nat) : Prop := k < gN B ∧ aH B k m ∧ ∃ j, j < i ∧ cd (gp B) k / 16 = φ j
theorem x_listHolders (hW : gW B) (h0 : pOK B M) {m : Nat} (hm : m < gN B) (hQ : ∀ M', wF1 98 M M' → lst 98 (fun k => k < gN B ∧ nH B k m) M' → Q ((cnt (dc (fun k => k < gN B ∧ nH B k m)) 1024 : Nat) : Int) M') : am_s am_P am_gg (d + 3) 101 [.inr (.inr 82), .inl (m : Int), .inr (.inr 99)] M Q := by
  have n2 := gN_le (B := B)
  obtain ⟨D, φ, hf, hD⟩ := h0.2.2.2.2
  have cD := cnt_le (p := D) 64
  have hl := h0.2.2.2.1.1 m hm
  have hb := h0.2.2.2.1.2 m hm
  -- the end
  have fin : ∀ M1, wF1 98 M M1 → lst 98 (fun k => k < gN B ∧ aH B k m) M1 → am_s am_P am_gg (d + 2) 95 [.inr (.inr 82), .inl (m : Int), .inl (m : Int)] M1 (fun r1 M2 => if r1 = 0 then am_s am_P am_gg (d + 2) 99 [.inl (m : Int), .inr (.inr 99), .inl ((cnt (dc (fun k => k < gN B ∧ aH B k m)) 1024 : Nat) : Int)] M2 (fun r2 M3 => Q r2 M3) else Q ((cnt (dc (fun k => k < gN B ∧ aH B k m)) 1024 : Nat) : Int) M2) := by
    intro M1 f1 l1
    have h1 := pOK_eq h0 (M0 := M1) (fun c a b => f1 c (by omega))
    refine x_isAround h1 hm hm (fun z => ?_) (fun z => ?_)
    · rw [if_neg (by decide)]
      have e2 : ∀ k, (k < gN B ∧ aH B k m) ↔ (k < gN B ∧ nH B k m) := fun k => and_congr_right (fun _ => ⟨Or.inr, fun y => y.elim (fun y => by rw [← y]; exact z) id⟩)
      rw [cnt_cg (fun k _ => e2 k)]
      exact hQ M1 f1 (lst_cong l1 (fun k _ => e2 k))
    · rw [if_pos rfl]
      refine x_listOne_98 l1 (by omega) (fun y => z y.2) (fun M2 f2 l3 => ?_)
      have e2 : ∀ k, ((k < gN B ∧ aH B k m) ∨ k = m) ↔ (k < gN B ∧ nH B k m) := fun k => ⟨fun z => z.elim (fun z => ⟨z.1, Or.inr z.2⟩) (fun z => ⟨by omega, Or.inl z.symm⟩), fun z => z.2.elim (fun y => Or.inr y.symm) (fun y => Or.inl ⟨z.1, y⟩)⟩
      rw [cnt_cg (fun k _ => e2 k)]
      exact hQ M2 (fun c hc => by rw [f2 c hc]; exact f1 c hc) (lst_cong l3 (fun k _ => e2 k))
  have all : ∀ k, hS B φ m (cnt D 64) k ↔ (k < gN B ∧ aH B k m) := fun k => ⟨fun z => ⟨z.1, z.2.1⟩, fun z => ⟨z.1, z.2, by
    obtain ⟨j, hj, e⟩ := hf.2.2.1 (cd (gp B) k / 16) (by have := (cdP z.1).1; omega) (hD _ (by have := (cdP z.1).1; omega) (hasF_cd z.1))
    exact ⟨j, hj, e.symm⟩⟩⟩
  refine (v_101_82_99 _ _ _ _).mpr ?_
  rw [if_pos (by omega)]
  rw [if_pos (by omega)]
  have key := p_for (S := (Nat → Int → Int)) (X := fun j M1 => ∃ t : Nat, j = (t : Int) ∧ am_x am_P am_gg (d + 2) am_k101 1 Q 21 [some (.inr (.inr 82)), some (.inl ((m : Int))), some (.inr (.inr 99)), some (.inr (.inl (M 89 (m : Int)))), none, some (.inl ((M 90 (m : Int)))), some (.inl (((cnt (dc (hS B φ m t)) 1024 : Nat) : Int))), some (.inl (j)), none, none] [] M1 0 0) (cnt D 64) (fun i M1 => wF1 98 M M1 ∧ lst 98 (hS B φ m i) M1) ?_ ?_ 0 M (by omega) ⟨fun _ _ => rfl, lst_cong lst_0 (fun k _ => ⟨fun z => z.elim, fun ⟨_, _, j, hj, _⟩ => absurd hj (by omega)⟩)⟩
  · obtain ⟨t, ht, kx⟩ := key
    have ht : t = 0 := by omega
    subst ht
    rw [show cnt (dc (hS B φ m 0)) 1024 = 0 from cnt_skip (t := 0) (by omega) (fun c _ _ => dc_f (fun ⟨_, _, j, hj, _⟩ => absurd hj (by omega)))] at kx
    exact kx
  · intro M1 ⟨f1, l1⟩
    refine ⟨_, rfl, ?_⟩
    refine (h_101_21_82_99 _ _ _ _ _ _ _ _).mpr ?_
    rw [show M1 81 10 = (cnt D 64 : Int) by rw [f1 81 (by decide)]; exact hf.1]
    rw [if_neg (by omega)]
    rw [cnt_cg (fun k _ => all k)]
    exact fin M1 f1 (lst_cong l1 (fun k _ => all k))
  · intro i M1 hi ⟨f1, l1⟩ k
    have h1 := pOK_eq h0 (M0 := M1) (fun c a b => f1 c (by omega))
    obtain ⟨y1, y2, y3⟩ := hf.2.1 i hi
    have e86 : M1 86 (i : Int) = (φ i : Int) := by rw [f1 86 (by decide)]; exact y1
    refine ⟨i, rfl, ?_⟩
    have hSs : ∀ q, hS B φ m (i + 1) q ↔ (hS B φ m i q ∨ q < gN B ∧ aH B q m ∧ cd (gp B) q / 16 = φ i) := fun q => by
      constructor
      · rintro ⟨z1, z2, j, hj, e⟩
        by_cases q2 : j = i
        · subst q2; exact Or.inr ⟨z1, z2, e⟩
        · exact Or.inl ⟨z1, z2, j, by omega, e⟩
      · rintro (⟨z1, z2, j, hj, e⟩ | z)
        · exact ⟨z1, z2, j, by omega, e⟩
        · exact ⟨z.1, z.2.1, i, by omega, z.2.2⟩
    have hne : ∀ q, hS B φ m i q → q < gN B ∧ cd (gp B) q / 16 ≠ φ i := fun q ⟨z1, z2, j, hj, e⟩ => ⟨z1, by rw [e]; exact hf.2.2.2.1 j i hj hi⟩
    -- the next round of the loop
    have nx : ∀ (e g : Int ⊕ (Int ⊕ Nat)) M2, wF1 98 M M2 → lst 98 (hS B φ m (i + 1)) M2 → am_x am_P am_gg (d + 2) am_k101 1 Q 21 [some (.inr (.inr 82)), some (.inl ((m : Int))), some (.inr (.inr 99)), some (.inr (.inl (M 89 (m : Int)))), none, some (.inl ((M 90 (m : Int)))), some (.inl (((cnt (dc (hS B φ m (i + 1))) 1024 : Nat) : Int))), some (.inl (w32 ((i : Int) + 1))), none, none] [] M2 0 0 := by
      intro _ _ M2 f2 l2
      rw [w32_s (by omega)]
      obtain ⟨t, ht, kx⟩ := k M2 ⟨f2, l2⟩
      have ht : t = i + 1 := by omega
      subst ht
      exact kx
    -- one frame
    have one : (if l_cmp (l_and (l_ushr (M 89 (m : Int)) (M1 86 (i : Int))) 1) 0 = 0 then (if M 90 (m : Int) = 0 then am_x am_P am_gg (d + 2) am_k101 1 Q 21 [some (.inr (.inr 82)), some (.inl ((m : Int))), some (.inr (.inr 99)), some (.inr (.inl (M 89 (m : Int)))), none, some (.inl ((M 90 (m : Int)))), some (.inl (((cnt (dc (hS B φ m i)) 1024 : Nat) : Int))), some (.inl (w32 ((i : Int) + 1))), some (.inl (M1 86 (i : Int))), none] [] M1 0 0 else am_s am_P am_gg (d + 2) 102 [.inr (.inr 82), .inl (M1 86 (i : Int)), .inl (M 90 (m : Int)), .inr (.inr 99), .inl ((cnt (dc (hS B φ m i)) 1024 : Nat) : Int)] M1 (fun r3 M3 => am_x am_P am_gg (d + 2) am_k101 1 Q 21 [some (.inr (.inr 82)), some (.inl ((m : Int))), some (.inr (.inr 99)), some (.inr (.inl (M 89 (m : Int)))), none, some (.inl ((M 90 (m : Int)))), some (.inl (r3)), some (.inl (w32 ((i : Int) + 1))), some (.inl (M1 86 (i : Int))), none] [] M3 0 0)) else (if 0 ≤ M1 86 (i : Int) ∧ M1 86 (i : Int) < 65 then am_x am_P am_gg (d + 2) am_k101 1 Q 70 [some (.inr (.inr 82)), some (.inl ((m : Int))), some (.inr (.inr 99)), some (.inr (.inl (M 89 (m : Int)))), none, some (.inl ((M 90 (m : Int)))), some (.inl (((cnt (dc (hS B φ m i)) 1024 : Nat) : Int))), some (.inl ((i : Int))), some (.inl (M1 86 (i : Int))), some (.inl ((M1 85 (M1 86 (i : Int)))))] [] M1 0 0 else False)) := by
      rw [e86]
      refine ld_bit hl y2 (fun no => ?_) (fun yes => ?_)
      · have nf : ¬ frmN B (φ i) m := fun z => no ⟨y2, hf.2.2.2.2.1 _ y2 y3, z⟩
        have aq : ∀ q, q < gN B → cd (gp B) q / 16 = φ i → (aH B q m ↔ whN B (cd (gp B) q % 16) ∧ rowN B (cd (gp B) q % 16) m) := fun q _ e => by
          unfold aH; rw [e]; exact ⟨fun z => z.elim (fun z => absurd z nf) id, Or.inr⟩
        refine @p_if _ _ _ _ ?_ ?_
        · intro z
          have z := (bs_z hb).mp z
          have e : ∀ q, hS B φ m i q ↔ hS B φ m (i + 1) q := fun q => by
            rw [hSs]
            exact ⟨Or.inl, fun y => y.elim id (fun y => absurd ((aq q y.1 y.2.2).mp y.2.1) (z _))⟩
          rw [cnt_cg (fun q _ => e q)]
          refine am_x_le [some (.inr (.inr 82)), some (.inl ((m : Int))), some (.inr (.inr 99)), some (.inr (.inl (M 89 (m : Int)))), none, some (.inl ((M 90 (m : Int)))), some (.inl (((cnt (dc (hS B φ m (i + 1))) 1024 : Nat) : Int))), some (.inl (w32 ((i : Int) + 1))), none, none] (am_lb_le _ _ ⟨rfl, rfl, rfl, rfl, rfl, rfl, rfl, trivial⟩) ?_
          exact nx (.inl 0) (.inl 0) M1 f1 (lst_cong l1 (fun q _ => e q))
        · intro _
          refine x_listSeconds (M0 := M) h0 y2 hb (fun r z => Nat.lt_of_lt_of_le z.1.1 hW.1) hne f1 l1 (fun M2 f2 l2 => ?_)
          have e : ∀ q, (hS B φ m i q ∨ q < gN B ∧ cd (gp B) q / 16 = φ i ∧ (whN B (cd (gp B) q % 16) ∧ rowN B (cd (gp B) q % 16) m)) ↔ hS B φ m (i + 1) q := fun q => by
            rw [hSs]
            exact or_congr Iff.rfl ⟨fun y => ⟨y.1, (aq q y.1 y.2.1).mpr y.2.2, y.2.1⟩, fun y => ⟨y.1, y.2.2, (aq q y.1 y.2.2).mp y.2.1⟩⟩
          rw [cnt_cg (fun q _ => e q)]
          refine am_x_le [some (.inr (.inr 82)), some (.inl ((m : Int))), some (.inr (.inr 99)), some (.inr (.inl (M 89 (m : Int)))), none, some (.inl ((M 90 (m : Int)))), some (.inl (((cnt (dc (hS B φ m (i + 1))) 1024 : Nat) : Int))), some (.inl (w32 ((i : Int) + 1))), none, none] (am_lb_le _ _ ⟨rfl, rfl, rfl, rfl, rfl, rfl, rfl, trivial⟩) ?_
          exact nx (.inl 0) (.inl 0) M2 f2 (lst_cong l2 (fun q _ => e q))
      · rw [if_pos (by omega)]
        have e85 : ∀ M2, wF1 98 M M2 → ∀ f : Nat, f < 65 → M2 85 (f : Int) = (cnt (gp B) (16 * f) : Int) := fun M2 f2 f hf => by rw [f2 85 (by decide)]; exact h0.2.1 f hf
        rw [e85 M1 f1 _ (by omega)]
        have c1 := cnt_le_of (p := gp B) (c := 16 * φ i) (n := 16 * (φ i + 1)) (by omega)
        have c2 : cnt (gp B) (16 * (φ i + 1)) ≤ gN B := cnt_le_of (p := gp B) (by omega)
        generalize hfi : φ i = fi at *
        have lp := p_for (S := (Nat → Int → Int)) (X := fun j M2 => ∃ t : Nat, j = (t : Int) ∧ am_x am_P am_gg (d + 2) am_k101 1 Q 70 [some (.inr (.inr 82)), some (.inl ((m : Int))), some (.inr (.inr 99)), some (.inr (.inl (M 89 (m : Int)))), none, some (.inl ((M 90 (m : Int)))), some (.inl (((cnt (dc (fun q => hS B φ m i q ∨ cnt (gp B) (16 * fi) ≤ q ∧ q < t)) 1024 : Nat) : Int))), some (.inl ((i : Int))), some (.inl ((fi : Int))), some (.inl (j))] [] M2 0 0) (cnt (gp B) (16 * (fi + 1))) (fun t M2 => cnt (gp B) (16 * fi) ≤ t ∧ wF1 98 M M2 ∧ lst 98 (fun q => hS B φ m i q ∨ cnt (gp B) (16 * fi) ≤ q ∧ q < t) M2) ?_ ?_ (cnt (gp B) (16 * fi)) M1 c1 ⟨Nat.le_refl _, f1, lst_cong l1 (fun q _ => ⟨Or.inl, fun z => z.elim id (fun z => absurd z.2 (by omega))⟩)⟩
        · obtain ⟨t, ht, kx⟩ := lp
          have ht : t = cnt (gp B) (16 * fi) := by omega
          rw [cnt_cg (P' := hS B φ m i) (fun q _ => ⟨fun z => z.elim id (fun z => absurd z.2 (by omega)), Or.inl⟩)] at kx
          exact kx
        · intro M2 ⟨_, f2, l2⟩
          refine ⟨_, rfl, ?_⟩
          refine (h_101_70_82_99 _ _ _ _ _ _ _ _ _ _).mpr ?_
          rw [w32_s (i := fi) (by omega), e85 M2 f2 _ (by omega)]
          rw [if_pos (by omega)]
          rw [if_neg (by omega)]
          have e : ∀ q, (hS B φ m i q ∨ cnt (gp B) (16 * fi) ≤ q ∧ q < cnt (gp B) (16 * (fi + 1))) ↔ hS B φ m (i + 1) q := fun q => by
            rw [hSs]
            exact or_congr Iff.rfl ⟨fun y => ⟨by omega, Or.inl (by rw [(inF_iff (by omega)).mpr y]; exact yes.2.2), (inF_iff (by omega)).mpr y⟩, fun y => (inF_iff y.1).mp y.2.2⟩
          rw [cnt_cg (fun q _ => e q)]
          refine am_x_le [some (.inr (.inr 82)), some (.inl ((m : Int))), some (.inr (.inr 99)), some (.inr (.inl (M 89 (m : Int)))), none, some (.inl ((M 90 (m : Int)))), some (.inl (((cnt (dc (hS B φ m (i + 1))) 1024 : Nat) : Int))), some (.inl (w32 ((i : Int) + 1))), none, none] (am_lb_le _ _ ⟨rfl, rfl, rfl, rfl, rfl, rfl, rfl, trivial⟩) ?_
          exact nx (.inl 0) (.inl 0) M2 f2 (lst_cong l2 (fun q _ => e q))
        · intro t M2 ht ⟨lo, f2, l2⟩ k2
          refine ⟨t, rfl, ?_⟩
          refine (h_101_70_82_99 _ _ _ _ _ _ _ _ _ _).mpr ?_
          rw [w32_s (i := fi) (by omega), e85 M2 f2 _ (by omega)]
          rw [if_pos (by omega)]
          rw [if_pos (by omega)]
          refine x_listOne_98 l2 (by omega) (fun z => ?_) (fun M3 f3 l3 => ?_)
          · rcases z with z | z
            · obtain ⟨a, b⟩ := hne t z
              exact b ((inF_iff a).mpr ⟨lo, ht⟩)
            · omega
          · obtain ⟨t', ht', kx⟩ := k2 M3 ⟨by omega, fun c hc => by rw [f3 c hc]; exact f2 c hc, lst_cong l3 (fun q _ => ⟨fun z => z.elim (fun z => z.imp id (fun z => ⟨z.1, by omega⟩)) (fun z => Or.inr ⟨by omega, by omega⟩), fun z => z.elim (fun z => Or.inl (Or.inl z)) (fun z => by
              by_cases e : q = t
              · exact Or.inr e
              · exact Or.inl (Or.inr ⟨z.1, by omega⟩))⟩)⟩
            have ht' : t' = t + 1 := by omega
            subst ht'
            rw [w32_s (i := t) (by omega), cnt_cg (P := fun q => (hS B φ m i q ∨ cnt (gp B) (16 * fi) ≤ q ∧ q < t) ∨ q = t) (P' := fun q => hS B φ m i q ∨ cnt (gp B) (16 * fi) ≤ q ∧ q < t + 1) (fun q _ => ⟨fun z => z.elim (fun z => z.imp id (fun z => ⟨z.1, by omega⟩)) (fun z => Or.inr ⟨by omega, by omega⟩), fun z => z.elim (fun z => Or.inl (Or.inl z)) (fun z => by
              by_cases e : q = t
              · exact Or.inr e
              · exact Or.inl (Or.inr ⟨z.1, by omega⟩))⟩)]
            exact kx
    refine (h_101_21_82_99 _ _ _ _ _ _ _ _).mpr ?_
    rw [show M1 81 10 = (cnt D 64 : Int) by rw [f1 81 (by decide)]; exact hf.1]
    rw [if_pos (by omega)]
    refine @p_if _ _ _ _ ?_ ?_
    · intro lz
      refine @p_if _ _ _ _ ?_ ?_
      · intro cz
        have n1 : ∀ q, ¬ (q < gN B ∧ aH B q m) := fun q z => by
          rcases z.2 with y | y
          · exact ld_nz hl lz (cd (gp B) q / 16) (by have := (cdP z.1).1; omega) ⟨by have := (cdP z.1).1; omega, hasF_cd z.1, y⟩
          · exact (bs_z hb).mp cz _ y
        have e : ∀ q, hS B φ m i q ↔ (q < gN B ∧ aH B q m) := fun q => ⟨fun z => ⟨z.1, z.2.1⟩, fun z => absurd z (n1 q)⟩
        rw [cnt_cg (fun k _ => e k)]
        exact fin M1 f1 (lst_cong l1 (fun k _ => e k))
      · intro _
        rw [if_pos (by omega)]
        exact one
    · intro _
      rw [if_pos (by omega)]
      exact one
theorem x_addBit_99 {k : Nat} (hk : k < 1024) {P : Nat → Prop} (h : lrw 99 0 P M) (hQ : ∀ M', wF1 99 M M' → lrw 99 0 (fun n => P n ∨ n = k) M' → Q 0 M') : am_s am_P am_gg (d + 1) 92 [.inr (.inr 100), .inl 0, .inl (k : Int)] M Q := by
  refine (v_92_100 _ _ _ _ _).mpr ?_
  rw [show (6 : Int) = ((6 : Nat) : Int) from rfl, shr_div (by omega) (by omega), show (63 : Int) = ((2 ^ 6 - 1 : Nat) : Int) from rfl, and_mod (by omega) (by omega), show (2 : Nat) ^ 6 = 64 from rfl, show w32 (0 + ((k / 64 : Nat) : Int)) = ((16 * 0 + k / 64 : Nat) : Int) by rw [w32_i (by omega) (by omega)]; omega]
  rw [if_neg (by omega)]
  rw [if_pos (by omega)]
  rw [if_pos (by omega)]
  refine hQ _ (fun c hc => up_nc _ _ _ _ hc) (fun w hw => ?_)
  rw [up_ci]
  by_cases e : w = k / 64
  · subst e
    rw [if_pos rfl]
    exact ld_cong (ld_or (h _ hw) (ld_one (b := k % 64) (by omega))) (fun k hk => or_congr Iff.rfl ⟨fun z => by omega, fun z => by omega⟩)
  · rw [if_neg (by omega)]
    exact ld_cong (h w hw) (fun k hk => ⟨Or.inl, fun z => z.elim id (fun z => absurd z (by omega))⟩)
/-- what a pair's sentence has is added to the marks -/
theorem x_addHad (h0 : pOK B M) {n : Nat} (hn : n < gN B) {P : Nat → Prop} (hP : lrw 99 0 P M) (hQ : ∀ M', wF1 99 M M' → lrw 99 0 (fun m => P m ∨ nH B n m) M' → Q 0 M') : am_s am_P am_gg (d + 3) 100 [.inr (.inr 82), .inl (n : Int), .inr (.inr 100)] M Q := by
  have n2 := gN_le (B := B)
  obtain ⟨c1, c2, c3⟩ := cdP hn
  refine (v_100_82_100 _ _ _ _).mpr ?_
  refine x_83 h0 hn (x_82 h0 hn ?_)
  refine p_for (S := (Nat → Int → Int)) (X := fun j M1 => am_x am_P am_gg (d + 2) am_k100 0 Q 22 [some (.inr (.inr 82)), some (.inl ((n : Int))), some (.inr (.inr 100)), some (.inl (w32 (((cd (gp B) n / 16 : Nat) : Int) * 16))), some (.inl (w32 (((cd (gp B) n % 16 : Nat) : Int) * 16))), some (.inl (j))] [] M1 0 0) ((gN B + 63) / 64) (fun w M1 => wF1 99 M M1 ∧ lrw 99 0 (fun m => P m ∨ aH B n m ∧ m < 64 * w) M1) ?_ ?_ 0 M (by omega) ⟨fun _ _ => rfl, lrw_cong hP (fun m _ => ⟨Or.inl, fun z => z.elim id (fun z => absurd z.2 (by omega))⟩)⟩
  · intro M1 ⟨f1, l1⟩
    have h1 := pOK_eq h0 (M0 := M1) (fun c a b => f1 c (by omega))
    refine (h_100_22_82_100 _ _ _ _ _ _ _).mpr ?_
    rw [h1.1.2]
    rw [if_neg (by omega)]
    refine x_addBit_99 (by omega) l1 (fun M2 f2 l2 => ?_)
    refine hQ M2 (fun c hc => by rw [f2 c hc]; exact f1 c hc) (lrw_cong l2 (fun m _ => ⟨?_, ?_⟩))
    · rintro ((z | z) | z)
      · exact Or.inl z
      · exact Or.inr (Or.inr z.1)
      · exact Or.inr (Or.inl z)
    · rintro (z | z | z)
      · exact Or.inl (Or.inl z)
      · exact Or.inr z
      · exact Or.inl (Or.inr ⟨z, by have := aH_lt z; omega⟩)
  · intro w M1 hw ⟨f1, l1⟩ k
    have h1 := pOK_eq h0 (M0 := M1) (fun c a b => f1 c (by omega))
    refine (h_100_22_82_100 _ _ _ _ _ _ _).mpr ?_
    rw [h1.1.2, w32_16 (by omega) (by omega), w32_16 (by omega) (by omega)]
    rw [if_pos (by omega)]
    rw [if_pos (by omega)]
    rw [if_pos (by omega)]
    rw [if_pos (by omega)]
    rw [if_pos (by omega)]
    rw [if_pos (by omega)]
    rw [w32_s (i := w) (by omega)]
    refine k _ ⟨fun c hc => by rw [up_nc _ _ _ _ hc]; exact f1 c hc, fun v hv => ?_⟩
    rw [up_ci]
    by_cases e : v = w
    · subst e
      rw [if_pos (by omega)]
      have := l1 v hv
      rw [show ((16 * 0 + v : Nat) : Int) = (v : Int) by omega] at this
      refine ld_cong (ld_or this (word_aH h1 hn hv)) (fun k hk => ⟨?_, ?_⟩)
      · rintro ((z | z) | z)
        · exact Or.inl z
        · exact Or.inr ⟨z.1, by omega⟩
        · exact Or.inr ⟨z, by omega⟩
      · rintro (z | z)
        · exact Or.inl (Or.inl z)
        · exact Or.inr z.1
    · rw [if_neg (by omega)]
      exact ld_cong (l1 v hv) (fun k hk => or_congr Iff.rfl (and_congr_right (fun _ => by omega)))
end S99
