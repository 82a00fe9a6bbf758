/-! rows filled -/
section S58
variable {M : (Nat → Int → Int)} {d : Nat} {Q : Int → (Nat → Int → Int) → Prop}
theorem x_fill_23 {v : Int} (hQ : Q 0 (am_fil M 23 0 8 v)) : am_s am_P am_gg (d + 1) 359 [.inr (.inr 24), .inl v] M Q := by
  refine (v_359_24 _ _ _ _).mpr ?_
  refine p_for (S := (Nat → Int → Int)) (X := fun i M => am_x am_P am_gg d am_k359 0 Q 5 [some (.inr (.inr 24)), some (.inl v), some (.inl i), some (.inl 8)] [] M 0 0) 8 (fun i M' => M' = am_fil M 23 0 i v) ?_ ?_ 0 M (by omega) (fil_0 _ _ _ _).symm
  · intro M' e; subst e
    refine (h_359_5_24 _ _ _ _ _ _).mpr ?_
    rw [if_neg (by omega)]
    exact hQ
  · intro i M' hi e k; subst e
    refine (h_359_5_24 _ _ _ _ _ _).mpr ?_
    rw [if_pos (by omega)]
    rw [if_pos (by omega)]
    rw [w32_s (by omega), fil_up _ _ _ _ _ (by omega)]
    exact k _ rfl
theorem x_fill_24 {v : Int} (hQ : Q 0 (am_fil M 24 0 8 v)) : am_s am_P am_gg (d + 1) 359 [.inr (.inr 25), .inl v] M Q := by
  refine (v_359_25 _ _ _ _).mpr ?_
  refine p_for (S := (Nat → Int → Int)) (X := fun i M => am_x am_P am_gg d am_k359 0 Q 5 [some (.inr (.inr 25)), some (.inl v), some (.inl i), some (.inl 8)] [] M 0 0) 8 (fun i M' => M' = am_fil M 24 0 i v) ?_ ?_ 0 M (by omega) (fil_0 _ _ _ _).symm
  · intro M' e; subst e
    refine (h_359_5_25 _ _ _ _ _ _).mpr ?_
    rw [if_neg (by omega)]
    exact hQ
  · intro i M' hi e k; subst e
    refine (h_359_5_25 _ _ _ _ _ _).mpr ?_
    rw [if_pos (by omega)]
    rw [if_pos (by omega)]
    rw [w32_s (by omega), fil_up _ _ _ _ _ (by omega)]
    exact k _ rfl
theorem x_fill_83 {v : Int} (hQ : Q 0 (am_fil M 83 0 1024 v)) : am_s am_P am_gg (d + 1) 359 [.inr (.inr 84), .inl v] M Q := by
  refine (v_359_84 _ _ _ _).mpr ?_
  refine p_for (S := (Nat → Int → Int)) (X := fun i M => am_x am_P am_gg d am_k359 0 Q 5 [some (.inr (.inr 84)), some (.inl v), some (.inl i), some (.inl 1024)] [] M 0 0) 1024 (fun i M' => M' = am_fil M 83 0 i v) ?_ ?_ 0 M (by omega) (fil_0 _ _ _ _).symm
  · intro M' e; subst e
    refine (h_359_5_84 _ _ _ _ _ _).mpr ?_
    rw [if_neg (by omega)]
    exact hQ
  · intro i M' hi e k; subst e
    refine (h_359_5_84 _ _ _ _ _ _).mpr ?_
    rw [if_pos (by omega)]
    rw [if_pos (by omega)]
    rw [w32_s (by omega), fil_up _ _ _ _ _ (by omega)]
    exact k _ rfl
theorem x_fill_18 {v : Int} (hQ : Q 0 (am_fil M 18 0 8 v)) : am_s am_P am_gg (d + 1) 359 [.inr (.inr 19), .inl v] M Q := by
  refine (v_359_19 _ _ _ _).mpr ?_
  refine p_for (S := (Nat → Int → Int)) (X := fun i M => am_x am_P am_gg d am_k359 0 Q 5 [some (.inr (.inr 19)), some (.inl v), some (.inl i), some (.inl 8)] [] M 0 0) 8 (fun i M' => M' = am_fil M 18 0 i v) ?_ ?_ 0 M (by omega) (fil_0 _ _ _ _).symm
  · intro M' e; subst e
    refine (h_359_5_19 _ _ _ _ _ _).mpr ?_
    rw [if_neg (by omega)]
    exact hQ
  · intro i M' hi e k; subst e
    refine (h_359_5_19 _ _ _ _ _ _).mpr ?_
    rw [if_pos (by omega)]
    rw [if_pos (by omega)]
    rw [w32_s (by omega), fil_up _ _ _ _ _ (by omega)]
    exact k _ rfl
theorem x_fill_19 {v : Int} (hQ : Q 0 (am_fil M 19 0 8 v)) : am_s am_P am_gg (d + 1) 359 [.inr (.inr 20), .inl v] M Q := by
  refine (v_359_20 _ _ _ _).mpr ?_
  refine p_for (S := (Nat → Int → Int)) (X := fun i M => am_x am_P am_gg d am_k359 0 Q 5 [some (.inr (.inr 20)), some (.inl v), some (.inl i), some (.inl 8)] [] M 0 0) 8 (fun i M' => M' = am_fil M 19 0 i v) ?_ ?_ 0 M (by omega) (fil_0 _ _ _ _).symm
  · intro M' e; subst e
    refine (h_359_5_20 _ _ _ _ _ _).mpr ?_
    rw [if_neg (by omega)]
    exact hQ
  · intro i M' hi e k; subst e
    refine (h_359_5_20 _ _ _ _ _ _).mpr ?_
    rw [if_pos (by omega)]
    rw [if_pos (by omega)]
    rw [w32_s (by omega), fil_up _ _ _ _ _ (by omega)]
    exact k _ rfl
theorem x_fill_20 {v : Int} (hQ : Q 0 (am_fil M 20 0 16 v)) : am_s am_P am_gg (d + 1) 359 [.inr (.inr 21), .inl v] M Q := by
  refine (v_359_21 _ _ _ _).mpr ?_
  refine p_for (S := (Nat → Int → Int)) (X := fun i M => am_x am_P am_gg d am_k359 0 Q 5 [some (.inr (.inr 21)), some (.inl v), some (.inl i), some (.inl 16)] [] M 0 0) 16 (fun i M' => M' = am_fil M 20 0 i v) ?_ ?_ 0 M (by omega) (fil_0 _ _ _ _).symm
  · intro M' e; subst e
    refine (h_359_5_21 _ _ _ _ _ _).mpr ?_
    rw [if_neg (by omega)]
    exact hQ
  · intro i M' hi e k; subst e
    refine (h_359_5_21 _ _ _ _ _ _).mpr ?_
    rw [if_pos (by omega)]
    rw [if_pos (by omega)]
    rw [w32_s (by omega), fil_up _ _ _ _ _ (by omega)]
    exact k _ rfl
theorem x_fill_21 {v : Int} (hQ : Q 0 (am_fil M 21 0 16 v)) : am_s am_P am_gg (d + 1) 359 [.inr (.inr 22), .inl v] M Q := by
  refine (v_359_22 _ _ _ _).mpr ?_
  refine p_for (S := (Nat → Int → Int)) (X := fun i M => am_x am_P am_gg d am_k359 0 Q 5 [some (.inr (.inr 22)), some (.inl v), some (.inl i), some (.inl 16)] [] M 0 0) 16 (fun i M' => M' = am_fil M 21 0 i v) ?_ ?_ 0 M (by omega) (fil_0 _ _ _ _).symm
  · intro M' e; subst e
    refine (h_359_5_22 _ _ _ _ _ _).mpr ?_
    rw [if_neg (by omega)]
    exact hQ
  · intro i M' hi e k; subst e
    refine (h_359_5_22 _ _ _ _ _ _).mpr ?_
    rw [if_pos (by omega)]
    rw [if_pos (by omega)]
    rw [w32_s (by omega), fil_up _ _ _ _ _ (by omega)]
    exact k _ rfl
theorem x_fill_99 {v : Int} (hQ : Q 0 (am_fil M 99 0 16 v)) : am_s am_P am_gg (d + 1) 357 [.inr (.inr 100), .inr (.inl v)] M Q := by
  refine (v_357_100 _ _ _ _).mpr ?_
  refine p_for (S := (Nat → Int → Int)) (X := fun i M => am_x am_P am_gg d am_k357 0 Q 6 [some (.inr (.inr 100)), some (.inr (.inl v)), none, some (.inl i), some (.inl 16)] [] M 0 0) 16 (fun i M' => M' = am_fil M 99 0 i v) ?_ ?_ 0 M (by omega) (fil_0 _ _ _ _).symm
  · intro M' e; subst e
    refine (h_357_6_100 _ _ _ _ _ _).mpr ?_
    rw [if_neg (by omega)]
    exact hQ
  · intro i M' hi e k; subst e
    refine (h_357_6_100 _ _ _ _ _ _).mpr ?_
    rw [if_pos (by omega)]
    rw [if_pos (by omega)]
    rw [w32_s (by omega), fil_up _ _ _ _ _ (by omega)]
    exact k _ rfl
theorem x_fill_88 {v : Int} (hQ : Q 0 (am_fil M 88 0 256 v)) : am_s am_P am_gg (d + 1) 357 [.inr (.inr 89), .inr (.inl v)] M Q := by
  refine (v_357_89 _ _ _ _).mpr ?_
  refine p_for (S := (Nat → Int → Int)) (X := fun i M => am_x am_P am_gg d am_k357 0 Q 6 [some (.inr (.inr 89)), some (.inr (.inl v)), none, some (.inl i), some (.inl 256)] [] M 0 0) 256 (fun i M' => M' = am_fil M 88 0 i v) ?_ ?_ 0 M (by omega) (fil_0 _ _ _ _).symm
  · intro M' e; subst e
    refine (h_357_6_89 _ _ _ _ _ _).mpr ?_
    rw [if_neg (by omega)]
    exact hQ
  · intro i M' hi e k; subst e
    refine (h_357_6_89 _ _ _ _ _ _).mpr ?_
    rw [if_pos (by omega)]
    rw [if_pos (by omega)]
    rw [w32_s (by omega), fil_up _ _ _ _ _ (by omega)]
    exact k _ rfl
theorem x_fill_87 {v : Int} (hQ : Q 0 (am_fil M 87 0 1024 v)) : am_s am_P am_gg (d + 1) 357 [.inr (.inr 88), .inr (.inl v)] M Q := by
  refine (v_357_88 _ _ _ _).mpr ?_
  refine p_for (S := (Nat → Int → Int)) (X := fun i M => am_x am_P am_gg d am_k357 0 Q 6 [some (.inr (.inr 88)), some (.inr (.inl v)), none, some (.inl i), some (.inl 1024)] [] M 0 0) 1024 (fun i M' => M' = am_fil M 87 0 i v) ?_ ?_ 0 M (by omega) (fil_0 _ _ _ _).symm
  · intro M' e; subst e
    refine (h_357_6_88 _ _ _ _ _ _).mpr ?_
    rw [if_neg (by omega)]
    exact hQ
  · intro i M' hi e k; subst e
    refine (h_357_6_88 _ _ _ _ _ _).mpr ?_
    rw [if_pos (by omega)]
    rw [if_pos (by omega)]
    rw [w32_s (by omega), fil_up _ _ _ _ _ (by omega)]
    exact k _ rfl
theorem x_fill_90 {a b : Nat} {v : Int} (ha : a ≤ b) (hb : b ≤ 1024) (hQ : Q 0 (am_fil M 90 a b v)) : am_s am_P am_gg (d + 2) 360 [.inr (.inr 91), .inl (a : Int), .inl (b : Int), .inl v] M Q := by
  refine (v_360_91 _ _ _ _ _ _).mpr ?_
  refine (v_356 _ _ _ _ _ _).mpr ?_
  rw [if_neg (by omega)]
  rw [if_neg (by omega)]
  rw [if_neg (by omega)]
  refine am_x_le [some (.inr (.inr 91)), none, some (.inl (b : Int)), some (.inl v), some (.inl (a : Int))] (am_lb_le _ _ ⟨rfl, rfl, rfl, rfl, trivial⟩) ?_
  refine p_for (S := (Nat → Int → Int)) (X := fun i M => am_x am_P am_gg (d + 1) am_k360 0 Q 10 [some (.inr (.inr 91)), none, some (.inl (b : Int)), some (.inl v), some (.inl i)] [] M 0 0) b (fun i M' => a ≤ i ∧ M' = am_fil M 90 a i v) ?_ ?_ a M ha ⟨Nat.le_refl _, (fil_0 _ _ _ _).symm⟩
  · intro M' ⟨_, e⟩; subst e
    refine (h_360_10_91 _ _ _ _ _ _).mpr ?_
    rw [if_neg (by omega)]
    exact hQ
  · intro i M' hi ⟨hai, e⟩ k; subst e
    refine (h_360_10_91 _ _ _ _ _ _).mpr ?_
    rw [if_pos (by omega)]
    rw [if_pos (by omega)]
    rw [w32_s (by omega), fil_up _ _ _ _ _ (by omega)]
    exact k _ ⟨by omega, rfl⟩
theorem x_fill_96 {a b : Nat} {v : Int} (ha : a ≤ b) (hb : b ≤ 1024) (hQ : Q 0 (am_fil M 96 a b v)) : am_s am_P am_gg (d + 2) 360 [.inr (.inr 97), .inl (a : Int), .inl (b : Int), .inl v] M Q := by
  refine (v_360_97 _ _ _ _ _ _).mpr ?_
  refine (v_356 _ _ _ _ _ _).mpr ?_
  rw [if_neg (by omega)]
  rw [if_neg (by omega)]
  rw [if_neg (by omega)]
  refine am_x_le [some (.inr (.inr 97)), none, some (.inl (b : Int)), some (.inl v), some (.inl (a : Int))] (am_lb_le _ _ ⟨rfl, rfl, rfl, rfl, trivial⟩) ?_
  refine p_for (S := (Nat → Int → Int)) (X := fun i M => am_x am_P am_gg (d + 1) am_k360 0 Q 10 [some (.inr (.inr 97)), none, some (.inl (b : Int)), some (.inl v), some (.inl i)] [] M 0 0) b (fun i M' => a ≤ i ∧ M' = am_fil M 96 a i v) ?_ ?_ a M ha ⟨Nat.le_refl _, (fil_0 _ _ _ _).symm⟩
  · intro M' ⟨_, e⟩; subst e
    refine (h_360_10_97 _ _ _ _ _ _).mpr ?_
    rw [if_neg (by omega)]
    exact hQ
  · intro i M' hi ⟨hai, e⟩ k; subst e
    refine (h_360_10_97 _ _ _ _ _ _).mpr ?_
    rw [if_pos (by omega)]
    rw [if_pos (by omega)]
    rw [w32_s (by omega), fil_up _ _ _ _ _ (by omega)]
    exact k _ ⟨by omega, rfl⟩
theorem x_fill_111 {a b : Nat} {v : Int} (ha : a ≤ b) (hb : b ≤ 1632) (hQ : Q 0 (am_fil M 111 a b v)) : am_s am_P am_gg (d + 2) 360 [.inr (.inr 112), .inl (a : Int), .inl (b : Int), .inl v] M Q := by
  refine (v_360_112 _ _ _ _ _ _).mpr ?_
  refine (v_356 _ _ _ _ _ _).mpr ?_
  rw [if_neg (by omega)]
  rw [if_neg (by omega)]
  rw [if_neg (by omega)]
  refine am_x_le [some (.inr (.inr 112)), none, some (.inl (b : Int)), some (.inl v), some (.inl (a : Int))] (am_lb_le _ _ ⟨rfl, rfl, rfl, rfl, trivial⟩) ?_
  refine p_for (S := (Nat → Int → Int)) (X := fun i M => am_x am_P am_gg (d + 1) am_k360 0 Q 10 [some (.inr (.inr 112)), none, some (.inl (b : Int)), some (.inl v), some (.inl i)] [] M 0 0) b (fun i M' => a ≤ i ∧ M' = am_fil M 111 a i v) ?_ ?_ a M ha ⟨Nat.le_refl _, (fil_0 _ _ _ _).symm⟩
  · intro M' ⟨_, e⟩; subst e
    refine (h_360_10_112 _ _ _ _ _ _).mpr ?_
    rw [if_neg (by omega)]
    exact hQ
  · intro i M' hi ⟨hai, e⟩ k; subst e
    refine (h_360_10_112 _ _ _ _ _ _).mpr ?_
    rw [if_pos (by omega)]
    rw [if_pos (by omega)]
    rw [w32_s (by omega), fil_up _ _ _ _ _ (by omega)]
    exact k _ ⟨by omega, rfl⟩
theorem x_fill_89 {a b : Nat} {v : Int} (ha : a ≤ b) (hb : b ≤ 1024) (hQ : Q 0 (am_fil M 89 a b v)) : am_s am_P am_gg (d + 2) 358 [.inr (.inr 90), .inl (a : Int), .inl (b : Int), .inr (.inl v)] M Q := by
  refine (v_358_90 _ _ _ _ _ _).mpr ?_
  refine (v_356 _ _ _ _ _ _).mpr ?_
  rw [if_neg (by omega)]
  rw [if_neg (by omega)]
  rw [if_neg (by omega)]
  refine am_x_le [some (.inr (.inr 90)), none, some (.inl (b : Int)), some (.inr (.inl v)), none, some (.inl (a : Int))] (am_lb_le _ _ ⟨rfl, rfl, rfl, rfl, trivial⟩) ?_
  refine p_for (S := (Nat → Int → Int)) (X := fun i M => am_x am_P am_gg (d + 1) am_k358 0 Q 10 [some (.inr (.inr 90)), none, some (.inl (b : Int)), some (.inr (.inl v)), none, some (.inl i)] [] M 0 0) b (fun i M' => a ≤ i ∧ M' = am_fil M 89 a i v) ?_ ?_ a M ha ⟨Nat.le_refl _, (fil_0 _ _ _ _).symm⟩
  · intro M' ⟨_, e⟩; subst e
    refine (h_358_10_90 _ _ _ _ _ _).mpr ?_
    rw [if_neg (by omega)]
    exact hQ
  · intro i M' hi ⟨hai, e⟩ k; subst e
    refine (h_358_10_90 _ _ _ _ _ _).mpr ?_
    rw [if_pos (by omega)]
    rw [if_pos (by omega)]
    rw [w32_s (by omega), fil_up _ _ _ _ _ (by omega)]
    exact k _ ⟨by omega, rfl⟩
end S58
