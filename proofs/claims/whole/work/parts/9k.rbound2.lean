/-! the reference: BOUND, counted -/
section S9k
variable {B : Nat → Nat} {M M0 : (Nat → Int → Int)} {d : Nat} {Q : Int → (Nat → Int → Int) → Prop}
/-- met, by codes and by numbers -/
theorem met_num (hW : gW B) {α : Nat → Bool} {b : Nat} (hb : b < gN B) : (∃ k, k < gN B ∧ gH B k (cd (gp B) b) ∧ ∃ c', c' < 1024 ∧ gH B k c' ∧ (∃ a, a < b ∧ α a = true ∧ c' = cd (gp B) a)) ↔ ∃ a, a < b ∧ α a = true ∧ shr B a b := by
  constructor
  · rintro ⟨k, hk, h1, c', _, h2, a, ha, hα, e⟩
    refine ⟨a, ha, hα, k, hk, ?_, (nH_iff hk hb).mpr h1⟩
    rw [e] at h2
    exact (nH_iff hk (by omega)).mpr h2
  · rintro ⟨a, ha, hα, k, hk, h1, h2⟩
    exact ⟨k, hk, (nH_iff hk hb).mp h2, cd (gp B) a, (cdP (show a < gN B by omega)).1, (nH_iff hk (by omega)).mp h1, a, ha, hα, rfl⟩
theorem m_bound1 (hW : gW B) (hH0 : ∀ k, k < gN B → bR M0 k (gH B k)) (h340 : M0 173 34 = (gN B : Int)) (h870 : ∀ k : Nat, k < gN B → M0 187 (k : Int) = (cd (gp B) k : Int)) (hL0 : lR (fun _ => False) M0) (hQ : ∀ M' v, wF1 192 M0 M' → apR B v → Q v M') : am_x am_P am_gg (d + 2) am_k320 1 Q 39 [some (.inr (.inr 174)), some (.inl (((0 : Nat) : Int))), some (.inl (((0 : Nat) : Int)))] [] M0 0 0 := by
  have n2 := gN_le (B := B)
  have key := p_for (S := Int × (Nat → Int → Int)) (X := fun j x => am_x am_P am_gg (d + 2) am_k320 1 Q 39 [some (.inr (.inr 174)), some (.inl (x.1)), some (.inl (j))] [] x.2 0 0) (gN B) (fun b x => wF1 192 M0 x.2 ∧ ∃ α : Nat → Bool, x.1 = (cnt α b : Int) ∧ (∀ m, m < b → apt B α m) ∧ lR (fun c' => ∃ a, a < b ∧ α a = true ∧ c' = cd (gp B) a) x.2) ?_ ?_ 0 (((0 : Nat) : Int), M0) (by omega) ⟨fun _ _ => rfl, fun _ => false, rfl, fun m hm => absurd hm (Nat.not_lt_zero m), lR_cong hL0 (fun c _ => ⟨fun z => z.elim, fun ⟨a, ha, _⟩ => absurd ha (Nat.not_lt_zero a)⟩)⟩
  · exact key
  · intro x ⟨f1, α, c1, a1, _⟩
    obtain ⟨v, M1⟩ := x
    dsimp only at f1 c1 ⊢
    refine (h_320_39_174 _ _ _ _ _).mpr ?_
    rw [f1 173 (by decide), h340]
    rw [if_neg (by omega)]
    exact hQ M1 v f1 ⟨α, a1, c1⟩
  · intro b x hb ⟨f1, α, c1, a1, l1⟩ k
    obtain ⟨v, M1⟩ := x
    dsimp only at f1 c1 l1 k ⊢
    have cl := cnt_le (p := α) b
    obtain ⟨d1, d2, d3⟩ := cdP hb
    have e87 : M1 187 (b : Int) = (cd (gp B) b : Int) := by rw [f1 187 (by decide)]; exact h870 b hb
    have hH1 : ∀ k, k < gN B → bR M1 k (gH B k) := fun k hk w hw => by rw [f1 189 (by decide)]; exact hH0 k hk w hw
    refine (h_320_39_174 _ _ _ _ _).mpr ?_
    rw [f1 173 (by decide), h340, e87, w32_s (i := b) (by omega), c1]
    rw [if_pos (by omega)]
    rw [if_pos (by omega)]
    refine m_isMet hH1 (by rw [f1 173 (by decide)]; exact h340) l1 d1 (fun yes => ?_) (fun no => ?_)
    · rw [if_neg (by decide)]
      obtain ⟨a, ha, ya, za⟩ := (met_num hW hb).mp yes
      have ec : cnt (fun i => if i = b then false else α i) b = cnt α b := cnt_congr (fun i hi => by rw [if_neg (by omega)])
      refine k (((cnt α b : Nat) : Int), M1) ⟨f1, fun i => if i = b then false else α i, by dsimp only; rw [cnt_s, ec, if_neg (by rw [if_pos rfl]; decide)]; rfl, fun m hm => ?_, lR_cong l1 (fun m hm => ⟨?_, ?_⟩)⟩
      · unfold apt
        dsimp only
        by_cases q : m = b
        · subst q
          rw [if_pos rfl]
          exact ⟨fun z => (by cases z), fun z => absurd za (z a ha (by rw [if_neg (by omega)]; exact ya))⟩
        · rw [if_neg q]
          refine (a1 m (by omega)).trans ⟨fun z a ha y => z a ha (by rw [if_neg (by omega)] at y; exact y), fun z a ha y => z a ha (by rw [if_neg (by omega)]; exact y)⟩
      · rintro ⟨a, ha, y, z⟩
        exact ⟨a, by omega, by dsimp only; rw [if_neg (by omega)]; exact y, z⟩
      · rintro ⟨a, ha, y, z⟩
        by_cases q : a = b
        · dsimp only at y; rw [if_pos q] at y; cases y
        · dsimp only at y; rw [if_neg q] at y
          exact ⟨a, by omega, y, z⟩
    · rw [if_pos rfl]
      have no := fun z => no ((met_num hW hb).mpr z)
      rw [e87, show Int.tdiv (cd (gp B) b : Int) 32 = ((cd (gp B) b / 32 : Nat) : Int) from rfl, show Int.tmod (cd (gp B) b : Int) 32 = ((cd (gp B) b % 32 : Nat) : Int) from rfl, w32_i (x := ((cd (gp B) b / 32 : Nat) : Int)) (by omega) (by omega), w32_i (x := ((cd (gp B) b % 32 : Nat) : Int)) (by omega) (by omega), w32_s (i := cnt α b) (by omega)]
      rw [if_pos (by omega)]
      rw [if_pos (by omega)]
      rw [if_pos (by omega)]
      rw [if_pos (by omega)]
      have ec : cnt (fun i => if i = b then true else α i) b = cnt α b := cnt_congr (fun i hi => by rw [if_neg (by omega)])
      refine k (((cnt α b + 1 : Nat) : Int), am_up M1 192 ((cd (gp B) b / 32 : Nat) : Int) (i_or (M1 192 ((cd (gp B) b / 32 : Nat) : Int)) (i_shl 1 ((cd (gp B) b % 32 : Nat) : Int)))) ⟨fun c hc => by dsimp only; rw [up_nc _ _ _ _ hc]; exact f1 c hc, fun i => if i = b then true else α i, by dsimp only; rw [cnt_s, ec, if_pos (by rw [if_pos rfl])], fun m hm => ?_, fun w hw => ?_⟩
      · unfold apt
        dsimp only
        by_cases q : m = b
        · subst q
          rw [if_pos rfl]
          exact ⟨fun _ a ha y z => no ⟨a, ha, by rw [if_neg (by omega)] at y; exact y, z⟩, fun _ => rfl⟩
        · rw [if_neg q]
          refine (a1 m (by omega)).trans ⟨fun z a ha y => z a ha (by rw [if_neg (by omega)] at y; exact y), fun z a ha y => z a ha (by rw [if_neg (by omega)]; exact y)⟩
      · dsimp only
        rw [up_ci]
        have same : ∀ j, (∃ a, a < b ∧ α a = true ∧ 32 * w + j = cd (gp B) a) → ∃ a, a < b + 1 ∧ (if a = b then true else α a) = true ∧ 32 * w + j = cd (gp B) a := fun j ⟨a, ha, y, z⟩ => ⟨a, by omega, by rw [if_neg (by omega)]; exact y, z⟩
        by_cases e : w = cd (gp B) b / 32
        · subst e
          rw [if_pos rfl]
          refine wd_cong (wd_or (l1 _ hw) (wd_one (b := cd (gp B) b % 32) (by omega))) (fun j hj => ⟨fun z => z.elim (same j) (fun z => ⟨b, by omega, by rw [if_pos rfl], by omega⟩), fun ⟨a, ha, y, z⟩ => ?_⟩)
          by_cases q : a = b
          · subst q; exact Or.inr (by omega)
          · rw [if_neg q] at y; exact Or.inl ⟨a, by omega, y, z⟩
        · rw [if_neg (by omega)]
          refine wd_cong (l1 w hw) (fun j hj => ⟨same j, fun ⟨a, ha, y, z⟩ => ?_⟩)
          by_cases q : a = b
          · subst q; omega
          · rw [if_neg q] at y; exact ⟨a, by omega, y, z⟩
end S9k
