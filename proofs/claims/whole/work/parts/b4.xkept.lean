/-! the chart as it is kept from call to call -/
/-- the chart is of this text; what is kept beside it is right -/
def ccI (B y : Nat → Nat) (m : Nat) (st : Int) (M : (Nat → Int → Int)) : Prop := chW M ∧ (0 ≤ M 108 6 ∧ M 108 6 ≤ st ∧ M 108 7 ≤ M 108 6 ∧ M 118 2 ≤ M 108 6) ∧ chC B y m M ∧ (M 108 7 = M 108 6 → trO B y m M) ∧ (M 118 2 = M 108 6 → M 118 3 = (wT B y (B 2) 0 m : Int))
def cgI (B : Nat → Nat) (st : Int) (M : (Nat → Int → Int)) : Prop := chW M ∧ (0 ≤ M 108 6 ∧ M 108 6 ≤ st ∧ M 108 7 ≤ M 108 6 ∧ M 118 2 ≤ M 108 6) ∧ (M 108 2 = M 2 0 → ∃ y m, ccI B y m st M)
/-- what texts change -/
def ctF (M M' : (Nat → Int → Int)) : Prop := (∀ c, c < 108 ∨ 120 < c → M' c = M c)
section Sb4
variable {B x y o : Nat → Nat} {a n r i j s k c e f d m N : Nat} {T : Nat → Nat × Nat} {M M0 : (Nat → Int → Int)} {Q : Int → (Nat → Int → Int) → Prop} {st : Int}
theorem ctF_rf : ctF M M := fun _ _ => rfl
theorem ctF_tr {M' M'' : (Nat → Int → Int)} (h : ctF M M') (h' : ctF M' M'') : ctF M M'' := fun c hc => (h' c hc).trans (h c hc)
theorem ccI_g (h : ccI B y m st M) : cgI B st M := ⟨h.1, h.2.1, fun _ => ⟨y, m, h⟩⟩
theorem ccI_st {st' : Int} (h : ccI B y m st M) (hs : st ≤ st') : ccI B y m st' M := ⟨h.1, ⟨h.2.1.1, by have := h.2.1.2.1; omega, h.2.1.2.2⟩, h.2.2⟩
theorem cgI_st {st' : Int} (h : cgI B st M) (hs : st ≤ st') : cgI B st' M := ⟨h.1, ⟨h.2.1.1, by have := h.2.1.2.1; omega, h.2.1.2.2⟩, fun q => by obtain ⟨y, m, z⟩ := h.2.2 q; exact ⟨y, m, ccI_st z hs⟩⟩
theorem chC_same (h : chC B x N M) (h' : chC B y m M) : N = m ∧ ∀ j, j < N → x j = y j := by
  obtain ⟨-, o, f, n, T, x', hxx, t1, t2, t3, t4, t5, t6, t7, t8, t9, t10⟩ := h
  obtain ⟨-, o', f', n', T', y', hyy, s1, s2, s3, s4, s5, s6, s7, s8, s9, s10⟩ := h'
  have e : N = m := by rw [t3] at s3; omega
  refine ⟨e, fun j hj => ?_⟩
  have q1 := (t8 j (by omega)).1
  have q2 := (s8 j (by omega)).1
  rw [← hxx j hj, ← hyy j (by omega)]
  rw [q1] at q2
  omega
theorem trO_x (h : trO B x N M) (hxy : ∀ j, j < N → x j = y j) : trO B y N M := by
  obtain ⟨x', h1, h2, h3⟩ := h
  exact ⟨x', fun j hj => (h1 j hj).trans (hxy j hj), h2, h3⟩
theorem chW_M {M' : (Nat → Int → Int)} (h : chW M) (e : M' 110 = M 110) : chW M' := by unfold chW; rw [e]; exact h
theorem chC_chW (h : chC B x N M) : chW M := by
  obtain ⟨-, o, f, n, T, x', hxx, t1, t2, t3, t4, t5, t6, t7, t8, t9, t10⟩ := h
  exact endF_chW t10
theorem chC_M {M' : (Nat → Int → Int)} (h : chC B x N M) (e2 : M' 2 0 = M 2 0) (e108 : ∀ i : Int, i = 2 ∨ i = 4 ∨ i = 5 ∨ i = 13 → M' 108 i = M 108 i) (e : ∀ c, 109 ≤ c → c ≤ 114 → M' c = M c) : chC B x N M' := by
  obtain ⟨h2, o, f, n, T, x', hxx, t1, t2, t3, t4, t5, t6, t7, t8, t9, t10⟩ := h
  exact ⟨by rw [e108 2 (by omega), e2]; exact h2, o, f, n, T, x', hxx, t1, stI_M t2 (e108 13 (by omega)) (e 112 (by omega) (by omega)) (e 113 (by omega) (by omega)) (e 114 (by omega) (by omega)), by rw [e108 4 (by omega)]; exact t3, t4, t5, t6, by rw [e108 5 (by omega)]; exact t7, by unfold txI; rw [e 109 (by omega) (by omega)]; exact t8, fun z h1 h2 => by unfold colF; rw [e 111 (by omega) (by omega)]; exact t9 z h1 h2, by unfold endF; rw [e 110 (by omega) (by omega)]; exact t10⟩
theorem ccI_M {M' : (Nat → Int → Int)} (h : ccI B y m st M) (e2 : M' 2 0 = M 2 0) (e : ∀ c, 108 ≤ c → c ≤ 118 → M' c = M c) : ccI B y m st M' := by
  obtain ⟨h1, h2, h3, h4, h5⟩ := h
  refine ⟨chW_M h1 (e 110 (by omega) (by omega)), by rw [e 108 (by omega) (by omega), e 118 (by omega) (by omega)]; exact h2, chC_M h3 e2 (fun i _ => by rw [e 108 (by omega) (by omega)]) (fun c a b => e c (by omega) (by omega)), fun q => ?_, fun q => ?_⟩
  · rw [e 108 (by omega) (by omega)] at q
    obtain ⟨x', g1, g2, g3⟩ := h4 q
    refine ⟨x', g1, g2, ?_⟩
    unfold ndI at g3 ⊢
    rw [e 108 (by omega) (by omega), e 115 (by omega) (by omega), e 116 (by omega) (by omega)]; exact g3
  · rw [e 108 (by omega) (by omega), e 118 (by omega) (by omega)] at q
    rw [e 118 (by omega) (by omega)]; exact h5 q
theorem cgI_M {M' : (Nat → Int → Int)} (h : cgI B st M) (e2 : M' 2 0 = M 2 0) (e : ∀ c, 108 ≤ c → c ≤ 118 → M' c = M c) : cgI B st M' := by
  obtain ⟨h1, h2, h3⟩ := h
  refine ⟨chW_M h1 (e 110 (by omega) (by omega)), by rw [e 108 (by omega) (by omega), e 118 (by omega) (by omega)]; exact h2, fun q => ?_⟩
  rw [e 108 (by omega) (by omega), e2] at q
  obtain ⟨y, m, z⟩ := h3 q
  exact ⟨y, m, ccI_M z e2 e⟩
theorem x_holdC_2 {b : Int} (hW : gW B) (hg : xgb B M 2) (hu : bs (M 16 5) (gUsd B)) (hm1 : 1 ≤ m) (hm : m ≤ 16) (hy : ∀ j : Nat, j < m → M 1 (j : Int) - b = (y j : Int) ∧ y j < 16) (hst : st < 2147483647) (hI : cgI B st M) (hQ : ∀ M', ctF M M' → ccI B y m (st + 1) M' → Q 0 M') : am_s am_P am_gg (d + 4) 1 [.inr (.inr 109), .inr (.inr 2), .inl b, .inl (m : Int)] M Q := by
  obtain ⟨h1, h2, h3⟩ := hI
  refine x_hold_2 (y := y) hW hg hu hm1 hm hy ⟨h2.1, by omega⟩ h1 (fun q => by obtain ⟨x, N, z⟩ := h3 q; exact ⟨x, N, z.2.2.1⟩) (fun M' g1 g2 g3 => hQ M' (fun c hc => g2.1 c (by omega)) ?_)
  have e7 : M' 108 7 = M 108 7 := g2.2 7 (by decide) (by decide) (by decide) (by decide) (by decide)
  have e118 : M' 118 = M 118 := g2.1 118 (by omega)
  rcases g3 with g3 | ⟨g3, g4⟩
  · refine ⟨chC_chW g1, ⟨by omega, by omega, by omega, by rw [e118]; omega⟩, g1, fun q => by omega, fun q => ?_⟩
    rw [e118] at q
    omega
  · obtain ⟨x, N, z1, z2, z3, z4, z5⟩ := h3 g3
    have eM : M' = M := funext (fun c => funext (fun i => g4 c i))
    rw [eM] at g1 ⊢
    obtain ⟨q1, q2⟩ := chC_same z3 g1
    subst q1
    refine ⟨h1, ⟨h2.1, by omega, h2.2.2.1, h2.2.2.2⟩, g1, fun q => trO_x (z4 q) q2, fun q => ?_⟩
    rw [z5 q, wT_x (y := y) (fun j _ hj => q2 j (by omega))]
theorem x_holdC_125 {b : Int} (hW : gW B) (hg : xgb B M 2) (hu : bs (M 16 5) (gUsd B)) (hm1 : 1 ≤ m) (hm : m ≤ 16) (hy : ∀ j : Nat, j < m → M 124 (j : Int) - b = (y j : Int) ∧ y j < 16) (hst : st < 2147483647) (hI : cgI B st M) (hQ : ∀ M', ctF M M' → ccI B y m (st + 1) M' → Q 0 M') : am_s am_P am_gg (d + 4) 1 [.inr (.inr 109), .inr (.inr 125), .inl b, .inl (m : Int)] M Q := by
  obtain ⟨h1, h2, h3⟩ := hI
  refine x_hold_125 (y := y) hW hg hu hm1 hm hy ⟨h2.1, by omega⟩ h1 (fun q => by obtain ⟨x, N, z⟩ := h3 q; exact ⟨x, N, z.2.2.1⟩) (fun M' g1 g2 g3 => hQ M' (fun c hc => g2.1 c (by omega)) ?_)
  have e7 : M' 108 7 = M 108 7 := g2.2 7 (by decide) (by decide) (by decide) (by decide) (by decide)
  have e118 : M' 118 = M 118 := g2.1 118 (by omega)
  rcases g3 with g3 | ⟨g3, g4⟩
  · refine ⟨chC_chW g1, ⟨by omega, by omega, by omega, by rw [e118]; omega⟩, g1, fun q => by omega, fun q => ?_⟩
    rw [e118] at q
    omega
  · obtain ⟨x, N, z1, z2, z3, z4, z5⟩ := h3 g3
    have eM : M' = M := funext (fun c => funext (fun i => g4 c i))
    rw [eM] at g1 ⊢
    obtain ⟨q1, q2⟩ := chC_same z3 g1
    subst q1
    refine ⟨h1, ⟨h2.1, by omega, h2.2.2.1, h2.2.2.2⟩, g1, fun q => trO_x (z4 q) q2, fun q => ?_⟩
    rw [z5 q, wT_x (y := y) (fun j _ hj => q2 j (by omega))]
theorem ccI_N (h : ccI B y m st M) : 1 ≤ m ∧ m ≤ 16 := by
  obtain ⟨-, -, ⟨-, o, f, n, T, x', hxx, t1, t2, t3, t4, t5, t6, t7, t8, t9, t10⟩, -, -⟩ := h
  omega
theorem x_buildC (hW : gW B) (hg : xgb B M 2) (hu : bs (M 16 5) (gUsd B)) (h : 0 < wT B y (B 2) 0 m) (hI : ccI B y m st M) (hQ : ∀ M', ctF M M' → ccI B y m st M' → trO B y m M' → Q 0 M') : am_s am_P am_gg (d + 4) 13 [.inr (.inr 109)] M Q := by
  obtain ⟨h1, h2, h3, h4, h5⟩ := hI
  refine x_build (x := y) (N := m) hW hg hu h3 h h4 (fun M' g1 g2 g3 g4 => ?_)
  have e6 : M' 108 6 = M 108 6 := g1.2 6 (by decide) (by decide) (by decide) (by decide)
  have e118 : M' 118 = M 118 := g1.1 118 (by decide) (by decide)
  refine hQ M' (fun c hc => g1.1 c (by omega) (by omega)) ⟨chC_chW g4, ⟨by omega, by omega, by omega, by rw [e118]; omega⟩, g4, fun _ => g3, fun q => ?_⟩ g3
  rw [e118] at q ⊢
  exact h5 (by omega)
theorem x_waysC (hW : gW B) (hg : xgb B M 2) (hI : ccI B y m st M) (hQ : ∀ M', ctF M M' → ccI B y m st M' → Q (wT B y (B 2) 0 m : Int) M') : am_s am_P am_gg (d + 7) 160 [.inr (.inr 119)] M Q := by
  obtain ⟨h1, h2, h3, h4, h5⟩ := hI
  refine x_ways hW hg h3 h5 (fun M' g1 g2 g3 => ?_)
  have e108 : M' 108 = M 108 := g1.1 108 (by decide) (by decide) (by decide)
  refine hQ M' (fun c hc => g1.1 c (by omega) (by omega) (by omega)) ⟨chW_M h1 (g1.1 110 (by decide) (by decide) (by decide)), ⟨by rw [e108]; exact h2.1, by rw [e108]; exact h2.2.1, by rw [e108]; exact h2.2.2.1, by omega⟩, chC_M h3 (by rw [g1.1 2 (by decide) (by decide) (by decide)]) (fun i _ => by rw [e108]) (fun c a b => g1.1 c (by omega) (by omega) (by omega)), fun q => ?_, fun _ => g3⟩
  rw [e108] at q
  obtain ⟨x', z1, z2, z3⟩ := h4 q
  refine ⟨x', z1, z2, ?_⟩
  unfold ndI at z3 ⊢
  rw [e108, g1.1 115 (by decide) (by decide) (by decide), g1.1 116 (by decide) (by decide) (by decide)]; exact z3
end Sb4
