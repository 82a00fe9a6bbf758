/-! the class's cover and the reference's are one -/
theorem cnt_sub {κ : Nat → Bool} {R : Nat → Prop} : ∀ t, cnt (dc (fun j => κ j = true ∧ R (cnt κ j))) t = cnt (dc R) (cnt κ t)
  | 0 => rfl
  | t + 1 => by
    rw [cnt_s, cnt_sub t, cnt_s (p := κ)]
    by_cases g : κ t = true
    · rw [if_pos g, cnt_s]
      by_cases r : R (cnt κ t)
      · rw [if_pos (dc_iff.mpr ⟨g, r⟩), if_pos (dc_iff.mpr r)]
      · rw [if_neg (fun z => r (dc_iff.mp z).2), if_neg (fun z => r (dc_iff.mp z))]
    · rw [if_neg g, if_neg (fun z => g (dc_iff.mp z).1)]; rfl
section S9m
variable {B : Nat → Nat} {M M' : (Nat → Int → Int)}
theorem cov_same (hc : coOK B M) (hr : cR (gp B) (gH B) (gN B) M') : ∃ (m : Nat) (ρ : Nat → Nat), m ≤ 1024 ∧ M 93 5 = (m : Int) ∧ M' 173 37 = (m : Int) ∧ (∀ i, i < m → ρ i < gN B ∧ M 94 (i : Int) = (ρ i : Int) ∧ M' 191 (i : Int) = (ρ i : Int)) ∧ ∀ x : Nat, x < gN B → M 96 (x : Int) = (cnt (dc (fun i => nH B (ρ i) x)) m : Int) := by
  obtain ⟨τ, n, κ, g1, k1, n1, t1, c1, c2, c3⟩ := hc
  obtain ⟨τ', n', κ', g2, k2, n2, r1, r2⟩ := hr
  obtain ⟨en, et⟩ := grd_uniq g1 g2
  subst en
  have ek := kpt_uniq et k1 k2
  have ec : ∀ j, j ≤ n → cnt κ' j = cnt κ j := fun j hj => cnt_congr (fun i hi => (ek i (by omega)).symm)
  have cl := cnt_le (p := κ) n
  have sel : ∀ i, i < cnt κ n → ∃ j, j < n ∧ κ j = true ∧ cnt κ j = i := fun i hi => cnt_sel hi
  refine ⟨cnt κ n, fun i => @dite Nat (i < cnt κ n) (Nat.decLt _ _) (fun h => τ (Classical.choose (sel i h))) (fun _ => 0), by omega, c1, by rw [r1, ec n (Nat.le_refl n)], fun i hi => ?_, fun x hx => ?_⟩
  · dsimp only
    rw [dif_pos hi]
    obtain ⟨j1, j2, j3⟩ := Classical.choose_spec (sel i hi)
    generalize Classical.choose (sel i hi) = j at *
    refine ⟨t1 j j1, ?_, ?_⟩
    · have := c2 j j1 j2
      rw [j3] at this; exact this
    · have := r2 j j1 (by rw [← ek j j1]; exact j2)
      rw [ec j (by omega), j3, ← et j j1] at this; exact this
  · rw [c3 x hx, ← cnt_sub]
    unfold hld
    refine congrArg (fun x : Nat => (x : Int)) (cnt_cg (fun j hj => and_congr_right (fun kj => ?_)))
    have lt := cnt_lt_of kj hj
    dsimp only
    rw [dif_pos lt]
    obtain ⟨j1, j2, j3⟩ := Classical.choose_spec (sel _ lt)
    rw [cnt_inj j2 kj j3]
end S9m
