/-! the reference's wrong sentences -/
section S9h
variable {B : Nat → Nat} {M M0 : (Nat → Int → Int)} {d : Nat} {Q : Int → (Nat → Int → Int) → Prop} {l : List Nat}
theorem m_isWrong (hW : gW B) (e2 : M 174 2 = (B 2 : Int)) (hL : rL B M) (hl : rw1 l M) (ht : lts l) (hn : l.length ≤ 200) {p c : Nat} (hp : p < l.length) (hc : c < 16) (h1 : (c ≠ l.getD p 0 ∧ ¬ (bfr B l p c ∧ aft B l p c)) → Q 1 M) (h0 : ¬ (c ≠ l.getD p 0 ∧ ¬ (bfr B l p c ∧ aft B l p c)) → Q 0 M) : am_s am_P am_gg (d + 2) 314 [.inr (.inr 174), .inl (p : Int), .inl (c : Int)] M Q := by
  have h28 := hW.2.2.1
  have s6 := hL.2.2.2.2.2.2.1
  have s7 := hL.2.2.2.2.2.2.2.1
  have s8 := hL.2.2.2.2.2.2.2.2.1
  have e29 := hl.1
  have ep : w32 ((p : Int) + 1) = ((p + 1 : Nat) : Int) := w32_s (by omega)
  have aftp : (p + 1 < l.length → gBes B c (l.getD (p + 1) 0) → Q 0 M) → (p + 1 < l.length → ¬ gBes B c (l.getD (p + 1) 0) → Q 1 M) → (¬ p + 1 < l.length → Q 0 M) → (if w32 ((p : Int) + 1) < M 173 29 then (if 0 ≤ (c : Int) ∧ (c : Int) < 16 then (if 0 ≤ w32 ((p : Int) + 1) ∧ w32 ((p : Int) + 1) < 256 then am_s am_P am_gg (d + 1) 226 [.inl (M 178 (c : Int)), .inl (M 186 (w32 ((p : Int) + 1)))] M (fun r6 M6 => (if r6 = 0 then Q 1 M6 else Q 0 M6)) else False) else False) else Q 0 M) := by
    intro k0 k1 k2
    rw [ep, e29]
    refine @p_if _ _ _ _ ?_ ?_
    · intro lt
      rw [if_pos (by omega)]
      rw [if_pos (by omega)]
      have lt2 := ht (p + 1) (by omega)
      rw [hl.2 (p + 1) (by omega)]
      refine m_bs (s8 c hc) (by omega) (fun z => ?_) (fun z => ?_)
      · rw [if_neg (by decide)]; exact k0 (by omega) z
      · rw [if_pos rfl]; exact k1 (by omega) z
    · intro ge; exact k2 (by omega)
  have befp : p ≠ 0 → (gBes B (l.getD (p - 1) 0) c → (if w32 ((p : Int) + 1) < M 173 29 then (if 0 ≤ (c : Int) ∧ (c : Int) < 16 then (if 0 ≤ w32 ((p : Int) + 1) ∧ w32 ((p : Int) + 1) < 256 then am_s am_P am_gg (d + 1) 226 [.inl (M 178 (c : Int)), .inl (M 186 (w32 ((p : Int) + 1)))] M (fun r6 M6 => (if r6 = 0 then Q 1 M6 else Q 0 M6)) else False) else False) else Q 0 M)) → (¬ gBes B (l.getD (p - 1) 0) c → Q 1 M) → (if 0 ≤ w32 ((p : Int) - 1) ∧ w32 ((p : Int) - 1) < 256 then (if 0 ≤ M 186 (w32 ((p : Int) - 1)) ∧ M 186 (w32 ((p : Int) - 1)) < 16 then am_s am_P am_gg (d + 1) 226 [.inl (M 178 (M 186 (w32 ((p : Int) - 1)))), .inl (c : Int)] M (fun r5 M5 => (if r5 = 0 then Q 1 M5 else (if w32 ((p : Int) + 1) < M5 173 29 then (if 0 ≤ (c : Int) ∧ (c : Int) < 16 then (if 0 ≤ w32 ((p : Int) + 1) ∧ w32 ((p : Int) + 1) < 256 then am_s am_P am_gg (d + 1) 226 [.inl (M5 178 (c : Int)), .inl (M5 186 (w32 ((p : Int) + 1)))] M5 (fun r6 M6 => (if r6 = 0 then Q 1 M6 else Q 0 M6)) else False) else False) else Q 0 M5))) else False) else False) := by
    intro hz k1 k0
    have lt2 := ht (p - 1) (by omega)
    rw [show w32 ((p : Int) - 1) = ((p - 1 : Nat) : Int) by rw [w32_i (by omega) (by omega)]; omega, hl.2 (p - 1) (by omega)]
    rw [if_pos (by omega)]
    rw [if_pos (by omega)]
    refine m_bs (s8 _ lt2) (by omega) (fun z => ?_) (fun z => ?_)
    · rw [if_neg (by decide)]; exact k1 z
    · rw [if_pos rfl]; exact k0 z
  refine (v_314_174 _ _ _ _ _).mpr ?_
  rw [if_pos (by omega), hl.2 p hp]
  by_cases same : l.getD p 0 = c
  · rw [if_pos (by omega)]
    exact h0 (fun z => z.1 same.symm)
  rw [if_neg (by omega)]
  have w1 : ¬ (bfr B l p c ∧ aft B l p c) → Q 1 M := fun z => h1 ⟨fun y => same y.symm, z⟩
  have w0 : bfr B l p c → aft B l p c → Q 0 M := fun x y => h0 (fun z => z.2 ⟨x, y⟩)
  have el : w32 ((l.length : Int) - 1) = (l.length : Int) - 1 := w32_i (by omega) (by omega)
  by_cases z : p = 0
  · have eb : bfr B l p c ↔ gE B (e0 B) (B 2) c := by unfold bfr; rw [if_pos z]
    rw [if_pos (show (p : Int) = 0 by omega)]
    refine (v_290_174 _ _ _).mpr ?_
    rw [e2, if_pos (by omega)]
    refine m_bs (s6 _ h28) (by omega) (fun b1 => ?_) (fun b0 => ?_)
    · rw [if_neg (by decide), e29, el]
      by_cases y : p + 1 = l.length
      · have ea : aft B l p c ↔ gE B (e1 B) (B 2) c := by unfold aft; rw [if_pos y]
        rw [if_pos (show (p : Int) = (l.length : Int) - 1 by omega)]
        refine (v_291_174 _ _ _).mpr ?_
        rw [e2, if_pos (by omega)]
        refine m_bs (s7 _ h28) (by omega) (fun a1 => ?_) (fun a0 => ?_)
        · rw [if_neg (by decide), if_neg (show ¬ (0 : Int) < (p : Int) by omega)]
          exact aftp (fun q => absurd q (by omega)) (fun q => absurd q (by omega)) (fun _ => w0 (eb.mpr b1) (ea.mpr a1))
        · rw [if_pos rfl]; exact w1 (fun x => a0 (ea.mp x.2))
      · have ea : aft B l p c ↔ gBes B c (l.getD (p + 1) 0) := by unfold aft; rw [if_neg y]
        rw [if_neg (show ¬ (p : Int) = (l.length : Int) - 1 by omega), if_neg (show ¬ (0 : Int) < (p : Int) by omega), ← e29]
        exact aftp (fun _ a1 => w0 (eb.mpr b1) (ea.mpr a1)) (fun _ a0 => w1 (fun x => a0 (ea.mp x.2))) (fun q => absurd (show p + 1 < l.length by omega) q)
    · rw [if_pos rfl]; exact w1 (fun x => b0 (eb.mp x.1))
  · have eb : bfr B l p c ↔ gBes B (l.getD (p - 1) 0) c := by unfold bfr; rw [if_neg z]
    rw [if_neg (show ¬ (p : Int) = 0 by omega), e29, el]
    by_cases y : p + 1 = l.length
    · have ea : aft B l p c ↔ gE B (e1 B) (B 2) c := by unfold aft; rw [if_pos y]
      rw [if_pos (show (p : Int) = (l.length : Int) - 1 by omega)]
      refine (v_291_174 _ _ _).mpr ?_
      rw [e2, if_pos (by omega)]
      refine m_bs (s7 _ h28) (by omega) (fun a1 => ?_) (fun a0 => ?_)
      · rw [if_neg (by decide), if_pos (show (0 : Int) < (p : Int) by omega)]
        exact befp z (fun b1 => aftp (fun q => absurd q (by omega)) (fun q => absurd q (by omega)) (fun _ => w0 (eb.mpr b1) (ea.mpr a1))) (fun b0 => w1 (fun x => b0 (eb.mp x.1)))
      · rw [if_pos rfl]; exact w1 (fun x => a0 (ea.mp x.2))
    · have ea : aft B l p c ↔ gBes B c (l.getD (p + 1) 0) := by unfold aft; rw [if_neg y]
      rw [if_neg (show ¬ (p : Int) = (l.length : Int) - 1 by omega), if_pos (show (0 : Int) < (p : Int) by omega)]
      exact befp z (fun b1 => aftp (fun _ a1 => w0 (eb.mpr b1) (ea.mpr a1)) (fun _ a0 => w1 (fun x => a0 (ea.mp x.2))) (fun q => absurd (show p + 1 < l.length by omega) q)) (fun b0 => w1 (fun x => b0 (eb.mp x.1)))
/-- the wrong one of a number; else how many there are -/
theorem m_wrongAt (hW : gW B) (e2 : M 174 2 = (B 2 : Int)) (hL : rL B M) (hl : rw1 l M) (ht : lts l) (hn : l.length ≤ 200) {i : Int} (h1 : ∀ q, q < 16 * l.length → wrq B l q → (cnt (dc (wrq B l)) q : Int) = i → Q (q : Int) M) (h0 : (∀ q, q < 16 * l.length → wrq B l q → (cnt (dc (wrq B l)) q : Int) ≠ i) → Q (-1 - (cnt (dc (wrq B l)) (16 * l.length) : Int)) M) : am_s am_P am_gg (d + 3) 315 [.inr (.inr 174), .inl i] M Q := by
  have s5 := hL.2.2.2.2.2.1
  refine (v_315_174 _ _ _ _).mpr ?_
  refine am_x_le [some (.inr (.inr 174)), some (.inl (i)), some (.inl (((0 : Nat) : Int))), some (.inl (((0 : Nat) : Int))), none] (am_lb_le _ _ ⟨rfl, rfl, rfl, rfl, trivial⟩) ?_
  have key := p_for (S := Int) (X := fun j x => am_x am_P am_gg (d + 2) am_k315 1 Q 4 [some (.inr (.inr 174)), some (.inl (i)), some (.inl (x)), some (.inl (j)), none] [] M 0 0) l.length (fun p x => x = ((cnt (dc (wrq B l)) (16 * p) : Nat) : Int) ∧ ∀ q, q < 16 * p → wrq B l q → (cnt (dc (wrq B l)) q : Int) ≠ i) ?_ ?_ 0 ((0 : Nat) : Int) (by omega) ⟨rfl, fun q hq => absurd hq (by omega)⟩
  · exact key
  · intro x ⟨ex, hI⟩
    have cl := cnt_le (p := dc (wrq B l)) (16 * l.length)
    refine (h_315_4_174 _ _ _ _ _ _).mpr ?_
    rw [hl.1]
    rw [if_neg (by omega)]
    rw [ex, w32_i (by omega) (by omega)]
    exact h0 hI
  · intro p x hp ⟨ex, hI⟩ k
    refine (h_315_4_174 _ _ _ _ _ _).mpr ?_
    rw [hl.1]
    rw [if_pos (by omega)]
    have key2 := p_for (S := Int) (X := fun j x => am_x am_P am_gg (d + 2) am_k315 1 Q 15 [some (.inr (.inr 174)), some (.inl (i)), some (.inl (x)), some (.inl ((p : Int))), some (.inl (j))] [] M 0 0) 16 (fun c x => x = ((cnt (dc (wrq B l)) (16 * p + c) : Nat) : Int) ∧ ∀ q, q < 16 * p + c → wrq B l q → (cnt (dc (wrq B l)) q : Int) ≠ i) ?_ ?_ 0 x (by omega) ⟨ex, hI⟩
    · exact key2
    · intro y ⟨ey, hJ⟩
      refine (h_315_15_174 _ _ _ _ _ _ _).mpr ?_
      rw [if_neg (by omega)]
      rw [w32_s (i := p) (by omega)]
      refine am_x_le [some (.inr (.inr 174)), some (.inl (i)), some (.inl (y)), some (.inl (((p + 1 : Nat) : Int))), none] (am_lb_le _ _ ⟨rfl, rfl, rfl, rfl, trivial⟩) ?_
      exact k y ⟨by rw [ey]; rfl, fun q hq => hJ q (by omega)⟩
    · intro c y hc ⟨ey, hJ⟩ k2
      have cl := cnt_le (p := dc (wrq B l)) (16 * p + c)
      have eq : wrq B l (16 * p + c) ↔ wrg B l p c := by unfold wrq; rw [show (16 * p + c) / 16 = p by omega, show (16 * p + c) % 16 = c by omega]
      have skip : ¬ wrg B l p c → am_x am_P am_gg (d + 2) am_k315 1 Q 15 [some (.inr (.inr 174)), some (.inl (i)), some (.inl (y)), some (.inl ((p : Int))), some (.inl (((c + 1 : Nat) : Int)))] [] M 0 0 := fun no => k2 y ⟨by rw [ey, ← Nat.add_assoc, cnt_s, if_neg (fun z => no (eq.mp (dc_iff.mp z)))]; rfl, fun q hq z => by
        by_cases e : q = 16 * p + c
        · subst e; exact absurd (eq.mp z) no
        · exact hJ q (by omega) z⟩
      refine (h_315_15_174 _ _ _ _ _ _ _).mpr ?_
      rw [w32_s (i := c) (by omega)]
      rw [if_pos (by omega)]
      refine m_bs s5 (by omega) (fun u1 => ?_) (fun u0 => ?_)
      · rw [if_neg (by decide)]
        refine m_isWrong hW e2 hL hl ht hn hp hc (fun w1 => ?_) (fun w0 => ?_)
        · have yes : wrg B l p c := ⟨⟨u1, w1.1⟩, w1.2⟩
          rw [if_neg (by decide)]
          refine @p_if _ _ _ _ ?_ ?_
          · intro e
            rw [w32_i (x := 16 * (p : Int)) (by omega) (by omega), w32_i (by omega) (by omega), show 16 * (p : Int) + (c : Int) = ((16 * p + c : Nat) : Int) by omega]
            exact h1 _ (by omega) (eq.mpr yes) (by rw [← ey]; exact e)
          · intro ne
            refine k2 _ ⟨by rw [ey, w32_s (by omega), ← Nat.add_assoc, cnt_s, if_pos (dc_iff.mpr (eq.mpr yes))], fun q hq z => ?_⟩
            by_cases e : q = 16 * p + c
            · subst e; rw [← ey]; exact ne
            · exact hJ q (by omega) z
        · rw [if_pos rfl]; exact skip (fun z => w0 ⟨z.1.2, z.2⟩)
      · rw [if_pos rfl]; exact skip (fun z => u0 z.1.1)
end S9h
