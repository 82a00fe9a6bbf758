/-! load: the class; the reference -/
noncomputable def sp_load (s : sS) (D : Nat → Nat) (a : Int) : Int × sS := if 0 ≤ a ∧ a ≤ s.tn then ldS s a.toNat (rdL s.tp a.toNat (0, 0, 0, D) 0) else (-1, s.S 1)
section Se6
variable {M : (Nat → Int → Int)} {d : Nat} {Q : Int → (Nat → Int → Int) → Prop} {x : rd} {k : Nat} {s : sS} {D : Nat → Nat}
theorem rdL_5 (tp : Nat → Nat) : ∀ n x i, (rdL tp n x i).1 ≤ 5 ∧ (rdL tp n x i).2.1 ≤ i + n := by
  intro n
  induction n with
  | zero => intro x i; exact ⟨Nat.zero_le _, Nat.le_refl _⟩
  | succ n ih =>
    intro x i
    unfold rdL
    by_cases z : (rdT x (tp i)).1 = 0
    · rw [if_pos z]
      have := ih (rdT x (tp i)).2 (i + 1)
      exact ⟨this.1, by omega⟩
    · rw [if_neg z]
      exact ⟨rdT_5 _ _, by show i ≤ i + (n + 1); omega⟩
theorem rdE_7' (x : rd) : rdE x ≤ 7 := by
  unfold rdE; (repeat' split) <;> decide
theorem ldE_7 {tp : Nat → Nat} {n : Nat} {x : rd} {i : Nat} : ldE (rdL tp n x i) ≤ 7 := by
  unfold ldE
  have h1 := (rdL_5 tp n x i).1
  have h2 := rdE_7' (rdL tp n x i).2.2
  split <;> omega
theorem ldP_i {tp : Nat → Nat} {n : Nat} {x : rd} (hn : n ≤ 400) : am_i32 (ldP n (rdL tp n x 0)) := by
  have h1 := (rdL_5 tp n x 0).2
  unfold ldP am_i32
  split
  · split <;> omega
  · omega
theorem x_load (h : xS k s M) (hk : k < 2147483647) (hD : D 0 = 0) (a : Int) : am_s am_P am_gg (d + 7) 169 [.inr (.inr 1), .inl a] M (xC (k + 1) s (sp_load s D a).2 (sp_load s D a).1 M) := by
  have hh := h
  obtain ⟨⟨w1, w2, w3, w4, w5, w6, w7, w8⟩, a2, a3, a4, a5, a6, a7, a8, a9, a10⟩ := h
  refine (v_169_1 _ _ _ _).mpr ?_
  unfold sp_load
  by_cases q : 0 ≤ a ∧ a ≤ (s.tn : Int)
  · rw [if_pos q, if_neg (by omega), a2, if_neg (by omega)]
    obtain ⟨n, rfl⟩ : ∃ n : Nat, a = (n : Int) := ⟨a.toNat, by omega⟩
    have hn : n ≤ s.tn := by omega
    rw [show (n : Int).toNat = n from rfl]
    clear a2 a3 a4 a5 a8 a9 a10
    refine x_read (D := D) hD (by omega) (fun i hi => w5 i (by omega)) (fun i hi => a6 i (by omega)) (fun M1 hF hR => ?_)
    obtain ⟨r1, r2, r3⟩ := hR
    have hp := ldP_i (tp := s.tp) (n := n) (x := (0, 0, 0, D)) (by omega)
    have he := ldE_7 (tp := s.tp) (n := n) (x := (0, 0, 0, D)) (i := 0)
    generalize rdL s.tp n (0, 0, 0, D) 0 = y at r1 r2 r3 hp he ⊢
    have hS := xS_ld hh hF (fk := (ldE y : Int)) (fa := ldP n y) (am_i32_n (by omega)) hp
    rw [r1, r2]
    have hfr : ∀ c, c ≠ 0 → am_up (am_up (am_up M1 0 1 0) 0 3 (ldE y : Int)) 0 4 (ldP n y) c = M1 c := fun c h0 => by rw [up_nc _ _ _ _ h0, up_nc _ _ _ _ h0, up_nc _ _ _ _ h0]
    unfold ldS
    by_cases z : ldE y = 0
    · rw [if_pos z, if_pos (by omega)]
      obtain ⟨g1, g2, g3⟩ := r3 z
      have hz : ldP n y = -1 := by
        unfold ldE at z; unfold ldP
        by_cases z1 : y.1 = 0
        · rw [if_pos z1] at z ⊢; rw [if_pos z]
        · rw [if_neg z1] at z; exact absurd z z1
      have hW := ldB_W g2
      have hg := ldB_g g1 g2 g3
      refine x_keep3 hS hk (fun M2 e1 fin => ?_)
      have e10 : ∀ c, 10 ≤ c → c ≤ 15 → M2 c = M1 c := fun c k1 k2 => by rw [e1 c (by omega) (by omega), hfr c (by omega)]
      refine x_cp_2_10 hW (xgb_eq hg (fun c k1 k2 => e10 c k1 k2)) (fun M3 f1 f2 f3 => ?_)
      have hv : M3 2 1 = (y.2.2.2.2.2 0 : Int) := by
        have : M3 2 1 = (ldB y.2.2.2.2.2 0 : Int) := f1.1
        rw [this]; unfold ldB; rw [gU_ne (by decide)]
      rw [hv]
      refine am_s_mono (Nat.le_refl _) (fin _ M3 _ _ hW f1 f2 f3) (fun r M4 c => ⟨c.1, ?_, ?_, ?_⟩)
      · have := c.2.1
        rw [z, hz] at this
        exact this
      · intro c' b1 b2
        rw [c.2.2.1 c' b1 b2, hfr c' (by omega)]; exact hF c' (by omega)
      · rcases c.2.2.2 with g | ⟨g, g'⟩
        · exact Or.inl (by rw [hfr 2 (by decide), hF 2 (by omega)] at g; exact g)
        · exact Or.inr ⟨g, fun c' b1 b2 => by rw [g' c' b1 b2, hfr c' (by omega)]; exact hF c' (by omega)⟩
    · rw [if_neg z, if_neg (by omega)]
      refine am_s_mono (Nat.le_refl _) (x_refuse hS (v := 7) (by unfold am_i32; omega)) (fun r M4 c => ⟨c.1, xS_mono c.2.1 (by omega), ?_, ?_⟩)
      · intro c' b1 b2
        rw [c.2.2.1 c' b1 b2, hfr c' (by omega)]; exact hF c' (by omega)
      · rcases c.2.2.2 with g | ⟨_, g⟩
        · exact Or.inl (by rw [hfr 2 (by decide), hF 2 (by omega)] at g; exact g)
        · exact Or.inr ⟨rfl, fun c' b1 b2 => by rw [g c' b1 b2, hfr c' (by omega)]; exact hF c' (by omega)⟩
  · rw [if_neg q]
    have ref := am_s_mono (Nat.le_refl _) (x_refuse (d := d + 5) hh (v := 1) (by unfold am_i32; omega)) (fun r M4 c => xC_mono c (show k ≤ k + 1 by omega))
    by_cases q0 : a < 0
    · rw [if_pos q0]; exact ref
    · rw [if_neg q0, if_pos (by omega)]; exact ref
end Se6
