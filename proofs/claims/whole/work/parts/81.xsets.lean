/-! the class: GOOD, COME TO, USED -/
theorem p_bit {v : Int} {p : Nat → Prop} {k : Nat} {A A' : Prop} {i : Decidable (i_and (i_shr v (k : Int)) 1 = 0)} (h : bs v p) (hk : k < 32) (h0 : ¬ p k → A) (h1 : p k → A') : @ite Prop (i_and (i_shr v (k : Int)) 1 = 0) i A A' := by
  have b := bs_bit h hk
  by_cases q : p k
  · rw [if_neg (by rw [b.1 q]; decide)]; exact h1 q
  · rw [if_pos (b.2 q)]; exact h0 q
section S81a
variable {B : Nat → Nat} {M : (Nat → Int → Int)} {d : Nat} {Q : Int → (Nat → Int → Int) → Prop}
theorem xg_n (h : xgb B M 2) : M 2 1 = (B 0 : Int) := h.1
theorem xg_o (h : xgb B M 2) : M 2 2 = (B 1 : Int) := h.2.1
theorem xg_rt (h : xgb B M 2) : M 2 4 = (B 2 : Int) := h.2.2.2.1
theorem xg_sy (h : xgb B M 2) {r : Nat} (hr : r < B 0) : M 3 (r : Int) = (gsy B r : Int) := (h.2.2.2.2.1 r hr).1
theorem xg_sz (h : xgb B M 2) {r : Nat} (hr : r < B 0) : M 4 (r : Int) = (gsz B r : Int) := (h.2.2.2.2.1 r hr).2.1
theorem xg_w (h : xgb B M 2) {r : Nat} (hr : r < B 0) : M 5 (r : Int) = (gwt B r : Int) := (h.2.2.2.2.1 r hr).2.2.1
theorem xg_sg (h : xgb B M 2) {r i : Nat} (hr : r < B 0) (hi : i < gsz B r) : M 6 ((4 * r + i : Nat) : Int) = (gsg B r i : Int) := (h.2.2.2.2.1 r hr).2.2.2 i hi
/-- the symbols in a row -/
def gIn (B : Nat → Nat) (r s : Nat) : Prop := s < 8 ∧ ∃ i, i < gsz B r ∧ gsg B r i = s
theorem gIn_all {P : Nat → Prop} {r : Nat} : (∀ s, ¬ (gIn B r s ∧ ¬ P s)) ↔ gAll B P r := by
  constructor
  · intro h i hi h8
    exact Classical.byContradiction (fun z => h _ ⟨⟨h8, i, hi, rfl⟩, z⟩)
  · intro h s ⟨⟨h8, i, hi, e⟩, z⟩
    subst e; exact z (h i hi h8)
theorem x_symbolsIn (hW : gW B) (hg : xgb B M 2) {r : Nat} (hr : r < B 0) (hQ : ∀ v, bs v (gIn B r) → Q v M) : am_s am_P am_gg (d + 2) 70 [.inr (.inr 3), .inl (r : Int)] M Q := by
  have hn := hW.1
  obtain ⟨-, hz, hz4, -, hs⟩ := hW.2.2.2.1 r hr
  refine (v_70_3 _ _ _ _).mpr ?_
  refine p_for (S := Int) (X := fun i x => am_x am_P am_gg (d + 1) am_k70 1 Q 4 [some (.inr (.inr 3)), some (.inl ((r : Int))), some (.inl (x)), some (.inl (i)), none] [] M 0 0) (gsz B r) (fun c x => bs x (fun s => s < 8 ∧ ∃ i, i < c ∧ gsg B r i = s)) ?_ ?_ 0 0 (by omega) (bs_cong bs_0 (fun j => ⟨fun z => z.elim, fun ⟨_, i, h, _⟩ => absurd h (Nat.not_lt_zero i)⟩))
  · intro x hx
    refine (h_70_4_3 _ _ _ _ _ _).mpr ?_
    rw [xg_sz hg hr]
    rw [if_pos (by omega)]
    rw [if_neg (by omega)]
    exact hQ x hx
  · intro c x hc hx k
    refine (h_70_4_3 _ _ _ _ _ _).mpr ?_
    rw [xg_sz hg hr]
    rw [if_pos (by omega)]
    rw [if_pos (by omega)]
    refine x_signAt hg hW hr hc ?_
    rw [w32_s (by omega)]
    have hsc := hs c hc
    refine @p_if _ _ _ _ ?_ ?_
    · intro h8
      refine am_x_le [some (.inr (.inr 3)), some (.inl ((r : Int))), some (.inl (i_or x (i_shl 1 (gsg B r c : Int)))), some (.inl (((c + 1 : Nat) : Int))), none] (am_lb_le _ _ ⟨rfl, rfl, rfl, rfl, trivial⟩) ?_
      refine k _ (bs_cong (bs_add hx (by omega)) (fun j => ⟨?_, ?_⟩))
      · rintro (⟨a, i, b, e⟩ | e)
        · exact ⟨a, i, by omega, e⟩
        · exact ⟨by omega, c, by omega, e.symm⟩
      · rintro ⟨a, i, b, e⟩
        by_cases q : i = c
        · subst q; exact Or.inr e.symm
        · exact Or.inl ⟨a, i, by omega, e⟩
    · intro h8
      rw [bs_or0 hx]
      refine am_x_le [some (.inr (.inr 3)), some (.inl ((r : Int))), some (.inl (x)), some (.inl (((c + 1 : Nat) : Int))), none] (am_lb_le _ _ ⟨rfl, rfl, rfl, rfl, trivial⟩) ?_
      refine k _ (bs_cong hx (fun j => and_congr_right (fun hj => ⟨fun ⟨i, b, e⟩ => ⟨i, by omega, e⟩, fun ⟨i, b, e⟩ => ⟨i, ?_, e⟩⟩)))
      by_cases q : i = c
      · subst q; omega
      · omega
end S81a
/-- of one cell some fields alone change -/
def frC (k : Nat) (lo hi : Int) (M M' : (Nat → Int → Int)) : Prop := (∀ c, c ≠ k → M' c = M c) ∧ ∀ i : Int, i < lo ∨ hi < i → M' k i = M k i
theorem frC_rf {k : Nat} {lo hi : Int} {M : (Nat → Int → Int)} : frC k lo hi M M := ⟨fun _ _ => rfl, fun _ _ => rfl⟩
theorem frC_up {k : Nat} {lo hi : Int} {M M' : (Nat → Int → Int)} (h : frC k lo hi M M') {i v : Int} (hi' : lo ≤ i ∧ i ≤ hi) : frC k lo hi M (am_up M' k i v) :=
  ⟨fun c a => by rw [up_nc _ _ _ _ a]; exact h.1 c a, fun j hj => by rw [up_ni _ _ _ _ (by omega)]; exact h.2 j hj⟩
theorem frC_tr {k : Nat} {lo hi : Int} {M1 M2 M3 : (Nat → Int → Int)} (h : frC k lo hi M1 M2) (g : frC k lo hi M2 M3) : frC k lo hi M1 M3 :=
  ⟨fun c a => (g.1 c a).trans (h.1 c a), fun j hj => (g.2 j hj).trans (h.2 j hj)⟩
/-- of the class's cells those of its sets alone change -/
def sF (M M' : (Nat → Int → Int)) : Prop := ∀ c, c < 16 ∨ 21 < c → M' c = M c
def sIn (B : Nat → Nat) (M : (Nat → Int → Int)) : Prop := ∀ r : Nat, r < B 0 → bs (M 17 (r : Int)) (gIn B r)
section S81
variable {B : Nat → Nat} {M M0 : (Nat → Int → Int)} {d : Nat} {Q : Int → (Nat → Int → Int) → Prop}
theorem sF_rf : sF M M := fun _ _ => rfl
theorem sF_up {M1 : (Nat → Int → Int)} (h : sF M M1) {c : Nat} (hc : 16 ≤ c ∧ c ≤ 21) {i v : Int} : sF M (am_up M1 c i v) := fun k hk => by rw [up_nc _ _ _ _ (by omega)]; exact h k hk
theorem sF_g {M1 : (Nat → Int → Int)} (h : sF M M1) (hg : xgb B M 2) : xgb B M1 2 := xgb_eq hg (fun c _ _ => h c (by omega))
theorem sF_tr {M1 M2 : (Nat → Int → Int)} (h : sF M M1) (g : sF M1 M2) : sF M M2 := fun c hc => (g c hc).trans (h c hc)
theorem fr16_g {lo hi : Int} (h : frC 16 lo hi M0 M) (hg : xgb B M0 2) : xgb B M 2 := xgb_eq hg (fun c _ _ => h.1 c (by omega))
theorem fr16_i {lo hi : Int} (h : frC 16 lo hi M0 M) (hi0 : sIn B M0) : sIn B M := fun r hr => by rw [h.1 17 (by decide)]; exact hi0 r hr
/-- one pass of GOOD -/
def xgI (B : Nat → Nat) (M0 M : (Nat → Int → Int)) (n : Nat) (a : Int) (c : Nat) : Prop := frC 16 2 4 M0 M ∧ bs (M 16 2) (bp (M 16 2)) ∧ (∀ s, bp (M 16 2) s → gGood B s) ∧ a ≤ M 16 2 ∧ (M 16 2 = a → ∀ r, r < c → gon B r = true → gAll B (bp (M 16 2)) r → bp (M 16 2) (gsy B r)) ∧ (∀ s, gdN B n s → bp (M 16 2) s) ∧ ∀ r, r < c → gon B r = true → gAll B (gdN B n) r → bp (M 16 2) (gsy B r)
theorem xg_pass (hW : gW B) (hg0 : xgb B M0 2) (hi0 : sIn B M0) {n : Nat} {a b : Int} (hk : ∀ M' (fl : Int), xgI B M0 M' n a (B 0) → (fl = 0 → M' 16 2 = a) → am_x am_P am_gg (d + 1) am_k121 0 Q 9 [some (.inr (.inr 17)), some (.inl (fl)), some (.inl ((w32 (b + 1)))), none, none] [] M' 0 0) (hI : xgI B M0 M n a 0) : am_x am_P am_gg (d + 1) am_k121 0 Q 27 [some (.inr (.inr 17)), none, some (.inl (b)), some (.inl (a)), some (.inl (((0 : Nat) : Int)))] [] M 0 0 := by
  have hn := hW.1
  refine p_for (S := (Nat → Int → Int)) (X := fun i M => am_x am_P am_gg (d + 1) am_k121 0 Q 27 [some (.inr (.inr 17)), none, some (.inl (b)), some (.inl (a)), some (.inl (i))] [] M 0 0) (B 0) (fun c M => xgI B M0 M n a c) ?_ ?_ 0 M (by omega) hI
  · intro M1 h1
    have hg := fr16_g h1.1 hg0
    refine (h_121_27_17 _ _ _ _ _ _).mpr ?_
    rw [xg_n hg]
    rw [if_neg (by omega)]
    refine @p_if _ _ _ _ ?_ ?_
    · intro q
      refine am_x_le [some (.inr (.inr 17)), some (.inl (0)), some (.inl ((w32 (b + 1)))), none, none] (am_lb_le _ _ ⟨rfl, rfl, rfl, trivial⟩) ?_
      exact hk M1 0 h1 (fun _ => q)
    · intro q
      refine am_x_le [some (.inr (.inr 17)), some (.inl (1)), some (.inl ((w32 (b + 1)))), none, none] (am_lb_le _ _ ⟨rfl, rfl, rfl, trivial⟩) ?_
      exact hk M1 1 h1 (fun z => by omega)
  · intro c M1 hc h1 k
    have hg := fr16_g h1.1 hg0
    have si := fr16_i h1.1 hi0
    obtain ⟨f, g1, g2, g3, g4, g5, g6⟩ := h1
    refine (h_121_27_17 _ _ _ _ _ _).mpr ?_
    rw [xg_n hg]
    rw [if_pos (by omega)]
    refine x_isOn hg hW.on (by omega) ?_ ?_
    · intro ho
      rw [if_neg (by omega)]
      rw [if_pos (by omega)]
      have hsub := bs_sub (si c hc) g1
      refine @p_if _ _ _ _ ?_ ?_
      · intro e
        have hA := gIn_all.mp ((bs_z hsub).mp e)
        rw [if_pos (by omega)]
        rw [xg_sy hg hc]
        have hsy := (hW.2.2.2.1 c hc).1
        have g1' := bs_add (k := gsy B c) g1 (by omega)
        have le : M1 16 2 ≤ i_or (M1 16 2) (i_shl 1 (gsy B c : Int)) := bs_le g1 g1' (fun j q => Or.inl q)
        rw [w32_s (by omega)]
        refine k _ ⟨frC_up f (by omega), ?_, ?_, ?_, ?_, ?_, ?_⟩
        · rw [up_eq]; exact bs_bp g1'
        · rw [up_eq]; intro s q
          rcases (bp_iff g1' s).mp q with q | q
          · exact g2 s q
          · rw [q]; exact gGood_in hc ⟨ho, gAll_mono g2 hA⟩
        · rw [up_eq]; omega
        · rw [up_eq]; intro e r hr hro hrA
          have e2 : M1 16 2 = a := by omega
          have e3 : i_or (M1 16 2) (i_shl 1 (gsy B c : Int)) = M1 16 2 := by omega
          rw [e3] at hrA ⊢
          by_cases q : r = c
          · subst q; rw [← e3]; exact (bp_iff g1' _).mpr (Or.inr rfl)
          · exact g4 e2 r (by omega) hro hrA
        · rw [up_eq]; intro s q; exact (bp_iff g1' s).mpr (Or.inl (g5 s q))
        · rw [up_eq]; intro r hr hro hrA
          by_cases q : r = c
          · subst q; exact (bp_iff g1' _).mpr (Or.inr rfl)
          · exact (bp_iff g1' _).mpr (Or.inl (g6 r (by omega) hro hrA))
      · intro e
        have hno : ¬ gAll B (bp (M1 16 2)) c := fun z => e ((bs_z hsub).mpr (gIn_all.mpr z))
        rw [w32_s (by omega)]
        refine k _ ⟨f, g1, g2, g3, fun e r hr hro hrA => ?_, g5, fun r hr hro hrA => ?_⟩
        · by_cases q : r = c
          · subst q; exact absurd hrA hno
          · exact g4 e r (by omega) hro hrA
        · by_cases q : r = c
          · subst q; exact absurd (gAll_mono g5 hrA) hno
          · exact g6 r (by omega) hro hrA
    · intro ho
      rw [if_pos (by omega)]
      rw [w32_s (by omega)]
      refine k _ ⟨f, g1, g2, g3, fun e r hr hro hrA => ?_, g5, fun r hr hro hrA => ?_⟩
      · by_cases q : r = c
        · subst q; rw [hro] at ho; cases ho
        · exact g4 e r (by omega) hro hrA
      · by_cases q : r = c
        · subst q; rw [hro] at ho; cases ho
        · exact g6 r (by omega) hro hrA
theorem x_findGood (hW : gW B) (hg0 : xgb B M0 2) (hi0 : sIn B M0) (hQ : ∀ M', frC 16 2 4 M0 M' → bs (M' 16 2) (gGood B) → bs (M' 16 4) (fun r => r < B 0 ∧ gSnd B r) → Q 0 M') : am_s am_P am_gg (d + 2) 121 [.inr (.inr 17)] M0 Q := by
  have hn := hW.1
  refine (v_121_17 _ _ _).mpr ?_
  -- behind the rounds
  have out : ∀ (M1 : (Nat → Int → Int)) (a : Int), frC 16 2 4 M0 M1 → bs (M1 16 2) (gGood B) → am_x am_P am_gg (d + 1) am_k121 0 Q 122 [some (.inr (.inr 17)), some (.inl (a)), some (.inl (0)), none, none] [] (am_up M1 16 4 0) 0 0 := by
    intro M1 a f1 g1
    refine am_x_le [some (.inr (.inr 17)), none, some (.inl (((0 : Nat) : Int))), none, none] (am_lb_le _ _ ⟨rfl, rfl, trivial⟩) ?_
    refine p_for (S := (Nat → Int → Int)) (X := fun i M => am_x am_P am_gg (d + 1) am_k121 0 Q 122 [some (.inr (.inr 17)), none, some (.inl (i)), none, none] [] M 0 0) (B 0) (fun c M => frC 16 2 4 M0 M ∧ bs (M 16 2) (gGood B) ∧ bs (M 16 4) (fun r => r < c ∧ gSnd B r)) ?_ ?_ 0 _ (by omega) ⟨frC_up f1 (by omega), by rw [up_ni _ _ _ _ (by decide)]; exact g1, by rw [up_eq]; exact bs_cong bs_0 (fun j => ⟨fun q => q.elim, fun q => absurd q.1 (Nat.not_lt_zero j)⟩)⟩
    · intro M2 ⟨f2, g2, s2⟩
      refine (h_121_122_17 _ _ _ _).mpr ?_
      rw [xg_n (fr16_g f2 hg0)]
      rw [if_neg (by omega)]
      exact hQ M2 f2 g2 s2
    · intro c M2 hc ⟨f2, g2, s2⟩ k
      have hg := fr16_g f2 hg0
      have si := fr16_i f2 hi0
      have skip : ¬ gSnd B c → am_x am_P am_gg (d + 1) am_k121 0 Q 122 [some (.inr (.inr 17)), none, some (.inl ((w32 ((c : Int) + 1)))), none, none] [] M2 0 0 := by
        intro no
        rw [w32_s (by omega)]
        refine k M2 ⟨f2, g2, bs_cong s2 (fun j => and_congr_left (fun hj => ⟨fun z => by omega, fun z => ?_⟩))⟩
        by_cases q : j = c
        · subst q; exact absurd hj no
        · omega
      refine (h_121_122_17 _ _ _ _).mpr ?_
      rw [xg_n hg]
      rw [if_pos (by omega)]
      refine x_isOn hg hW.on (by omega) ?_ ?_
      · intro ho
        rw [if_neg (by omega)]
        rw [if_pos (by omega)]
        have hsub := bs_sub (si c hc) g2
        refine @p_if _ _ _ _ ?_ ?_
        · intro e
          have hA := gIn_all.mp ((bs_z hsub).mp e)
          rw [w32_s (by omega)]
          refine k _ ⟨frC_up f2 (by omega), by rw [up_ni _ _ _ _ (by decide)]; exact g2, ?_⟩
          rw [up_eq]
          refine bs_cong (bs_add s2 (by omega)) (fun j => ⟨?_, ?_⟩)
          · rintro (z | z)
            · exact ⟨by omega, z.2⟩
            · subst z; exact ⟨by omega, ho, hA⟩
          · intro z
            by_cases q : j = c
            · exact Or.inr q
            · exact Or.inl ⟨by omega, z.2⟩
        · intro e
          exact skip (fun z => e ((bs_z hsub).mpr (gIn_all.mpr z.2)))
      · intro ho
        rw [if_pos (by omega)]
        exact skip (fun z => by rw [z.1] at ho; cases ho)
  refine p_for (S := Int × (Nat → Int → Int)) (X := fun i x => am_x am_P am_gg (d + 1) am_k121 0 Q 9 [some (.inr (.inr 17)), some (.inl (x.1)), some (.inl (i)), none, none] [] x.2 0 0) 9 (fun n x => frC 16 2 4 M0 x.2 ∧ bs (x.2 16 2) (bp (x.2 16 2)) ∧ (∀ s, bp (x.2 16 2) s → gGood B s) ∧ (∀ s, gdN B n s → bp (x.2 16 2) s) ∧ (x.1 = 0 → ∀ r, r < B 0 → gon B r = true → gAll B (bp (x.2 16 2)) r → bp (x.2 16 2) (gsy B r))) ?_ ?_ 0 (1, am_up M0 16 2 0) (by omega) ?_
  · intro x ⟨f, g1, g2, g3, g4⟩
    refine (h_121_9_17 _ _ _ _ _).mpr ?_
    rw [if_pos (by omega)]
    refine out _ _ f (bs_cong g1 (fun j => ⟨g2 j, fun ⟨m, q⟩ => g3 j (gdN_mono (gdN_8 hW q))⟩))
  · intro n x hn9 ⟨f, g1, g2, g3, g4⟩ k
    refine (h_121_9_17 _ _ _ _ _).mpr ?_
    rw [if_neg (by omega)]
    refine @p_if _ _ _ _ ?_ ?_
    · intro e
      exact out _ _ f (bs_cong g1 (fun j => ⟨g2 j, fun ⟨m, q⟩ => gGood_least (g4 e) q⟩))
    · intro e
      refine am_x_le [some (.inr (.inr 17)), none, some (.inl ((n : Int))), some (.inl ((x.2 16 2))), some (.inl (((0 : Nat) : Int)))] (am_lb_le _ _ ⟨rfl, rfl, rfl, rfl, trivial⟩) ?_
      refine xg_pass hW hg0 hi0 (fun M' fl h' hfl => ?_) ⟨f, g1, g2, Int.le_refl _, fun _ r hr => absurd hr (Nat.not_lt_zero r), g3, fun r hr => absurd hr (Nat.not_lt_zero r)⟩
      obtain ⟨f', g1', g2', g3', g4', g5', g6'⟩ := h'
      rw [w32_s (by omega)]
      refine k (fl, M') ⟨f', g1', g2', fun s q => ?_, fun q => g4' (hfl q)⟩
      obtain ⟨r, q1, q2, q3, q4⟩ := q
      rw [← q3]; exact g6' r q1 q2 q4
  · refine ⟨frC_up frC_rf (by omega), ?_, ?_, ?_, ?_⟩
    · dsimp only; rw [up_eq]; exact bs_bp bs_0
    · dsimp only; rw [up_eq]; intro s q; exact ((bp_iff bs_0 s).mp q).elim
    · intro s q; exact q.elim
    · intro q; dsimp only at q; omega
theorem x_isSound {r : Nat} (hr : r < 32) (h : bs (M 16 4) (fun r => r < B 0 ∧ gSnd B r)) (hr0 : r < B 0) (h1 : gSnd B r → Q 1 M) (h0 : ¬ gSnd B r → Q 0 M) : am_s am_P am_gg (d + 1) 119 [.inr (.inr 17), .inl (r : Int)] M Q := by
  refine (v_119_17 _ _ _ _).mpr (p_bit h hr (fun z => h0 (fun q => z ⟨hr0, q⟩)) (fun z => h1 z.2))
theorem x_isUsed {r : Nat} (hr : r < 32) (h : bs (M 16 5) (gUsd B)) (h1 : gUsd B r → Q 1 M) (h0 : ¬ gUsd B r → Q 0 M) : am_s am_P am_gg (d + 1) 120 [.inr (.inr 17), .inl (r : Int)] M Q :=
  (v_120_17 _ _ _ _).mpr (p_bit h hr h0 h1)
theorem x_comesTo (hW : gW B) (hg : xgb B M 2) {P : Nat → Prop} {r : Nat} (hr : r < B 0) (h : bs (M 16 4) (fun r => r < B 0 ∧ gSnd B r)) (h3 : bs (M 16 3) P) (h1 : gSnd B r → P (gsy B r) → Q 1 M) (h0 : ¬ (gSnd B r ∧ P (gsy B r)) → Q 0 M) : am_s am_P am_gg (d + 2) 122 [.inr (.inr 17), .inl (r : Int)] M Q := by
  have hn := hW.1
  have hsy := (hW.2.2.2.1 r hr).1
  refine (v_122_17 _ _ _ _).mpr (x_isSound (by omega) h hr ?_ ?_)
  · intro q
    rw [if_neg (by omega)]
    rw [xg_sy hg hr]
    rw [if_pos (by omega)]
    exact p_bit h3 (by omega) (fun z => h0 (fun y => z y.2)) (fun z => h1 q z)
  · intro q
    rw [if_pos (by omega)]
    exact h0 (fun z => q z.1)
/-- one pass of COME TO -/
def xrI (B : Nat → Nat) (M0 M : (Nat → Int → Int)) (n : Nat) (a : Int) (c : Nat) : Prop := frC 16 3 3 M0 M ∧ bs (M 16 3) (bp (M 16 3)) ∧ (∀ s, bp (M 16 3) s → gRch B s) ∧ bp (M 16 3) (B 2) ∧ a ≤ M 16 3 ∧ (M 16 3 = a → ∀ r, r < c → gSnd B r → bp (M 16 3) (gsy B r) → ∀ i, i < gsz B r → gsg B r i < 8 → bp (M 16 3) (gsg B r i)) ∧ (∀ s, grN B n s → bp (M 16 3) s) ∧ ∀ r, r < c → gSnd B r → grN B n (gsy B r) → ∀ i, i < gsz B r → gsg B r i < 8 → bp (M 16 3) (gsg B r i)
theorem x_findReached (hW : gW B) (hg0 : xgb B M0 2) (hi0 : sIn B M0) (hs0 : bs (M0 16 4) (fun r => r < B 0 ∧ gSnd B r)) (hQ : ∀ M', frC 16 3 3 M0 M' → bs (M' 16 3) (gRch B) → Q 0 M') : am_s am_P am_gg (d + 3) 123 [.inr (.inr 17)] M0 Q := by
  have hn := hW.1
  have h2 := hW.2.2.1
  have o1 := bs_one (k := B 2) (by omega)
  refine (v_123_17 _ _ _).mpr ?_
  rw [xg_rt hg0]
  refine p_for (S := Int × (Nat → Int → Int)) (X := fun i x => am_x am_P am_gg (d + 2) am_k123 0 Q 17 [some (.inr (.inr 17)), some (.inl (x.1)), some (.inl (i)), none, none] [] x.2 0 0) 9 (fun n x => frC 16 3 3 M0 x.2 ∧ bs (x.2 16 3) (bp (x.2 16 3)) ∧ (∀ s, bp (x.2 16 3) s → gRch B s) ∧ bp (x.2 16 3) (B 2) ∧ (∀ s, grN B n s → bp (x.2 16 3) s) ∧ (x.1 = 0 → ∀ r, r < B 0 → gSnd B r → bp (x.2 16 3) (gsy B r) → ∀ i, i < gsz B r → gsg B r i < 8 → bp (x.2 16 3) (gsg B r i))) ?_ ?_ 0 (1, am_up M0 16 3 (i_shl 1 (B 2 : Int))) (by omega) ?_
  · intro x ⟨f, g1, g2, g3, g4, g5⟩
    refine (h_123_17_17 _ _ _ _ _).mpr ?_
    rw [if_pos (by omega)]
    exact hQ _ f (bs_cong g1 (fun j => ⟨g2 j, fun ⟨m, q⟩ => g4 j (Or.inl (grN_8 hW q))⟩))
  · intro n x hn9 ⟨f, g1, g2, g3, g4, g5⟩ k
    refine (h_123_17_17 _ _ _ _ _).mpr ?_
    rw [if_neg (by omega)]
    refine @p_if _ _ _ _ ?_ ?_
    · intro e
      exact hQ _ f (bs_cong g1 (fun j => ⟨g2 j, fun ⟨m, q⟩ => gRch_least g3 (fun r i a b c e1 e2 => g5 e r a b c i e1 e2) q⟩))
    · intro e
      refine am_x_le [some (.inr (.inr 17)), none, some (.inl ((n : Int))), some (.inl ((x.2 16 3))), some (.inl (((0 : Nat) : Int)))] (am_lb_le _ _ ⟨rfl, rfl, rfl, rfl, trivial⟩) ?_
      obtain ⟨a, ha⟩ : ∃ a, a = x.2 16 3 := ⟨_, rfl⟩
      rw [← ha]
      refine p_for (S := (Nat → Int → Int)) (X := fun i M => am_x am_P am_gg (d + 2) am_k123 0 Q 35 [some (.inr (.inr 17)), none, some (.inl ((n : Int))), some (.inl (a)), some (.inl (i))] [] M 0 0) (B 0) (fun c M => xrI B M0 M n a c) ?_ ?_ 0 x.2 (by omega) ?_
      · intro M1 h1
        obtain ⟨f', g1', g2', g3', g4', g5', g6', g7'⟩ := h1
        have hg := fr16_g f' hg0
        refine (h_123_35_17 _ _ _ _ _ _).mpr ?_
        rw [xg_n hg, w32_s (i := n) (by omega)]
        rw [if_neg (by omega)]
        have fin : ∀ fl : Int, (fl = 0 → M1 16 3 = a) → am_x am_P am_gg (d + 2) am_k123 0 Q 17 [some (.inr (.inr 17)), some (.inl (fl)), some (.inl (((n + 1 : Nat) : Int))), none, none] [] M1 0 0 := fun fl hfl => k (fl, M1) ⟨f', g1', g2', g3', fun s q => by
          rcases q with q | ⟨r, q1, q2, q3, q4, i, q5, q6⟩
          · exact g6' s q
          · rw [← q6]; exact g7' r q1 q2 q3 i q5 (by omega), fun q => g5' (hfl q)⟩
        refine @p_if _ _ _ _ ?_ ?_
        · intro q
          refine am_x_le [some (.inr (.inr 17)), some (.inl (0)), some (.inl (((n + 1 : Nat) : Int))), none, none] (am_lb_le _ _ ⟨rfl, rfl, rfl, trivial⟩) ?_
          exact fin 0 (fun _ => q)
        · intro q
          refine am_x_le [some (.inr (.inr 17)), some (.inl (1)), some (.inl (((n + 1 : Nat) : Int))), none, none] (am_lb_le _ _ ⟨rfl, rfl, rfl, trivial⟩) ?_
          exact fin 1 (fun z => by omega)
      · intro c M1 hc h1 k2
        obtain ⟨f', g1', g2', g3', g4', g5', g6', g7'⟩ := h1
        have hg := fr16_g f' hg0
        have si := fr16_i f' hi0
        have ss : bs (M1 16 4) (fun r => r < B 0 ∧ gSnd B r) := by rw [f'.2 4 (by omega)]; exact hs0
        refine (h_123_35_17 _ _ _ _ _ _).mpr ?_
        rw [xg_n hg]
        rw [if_pos (by omega)]
        refine x_comesTo hW hg hc ss g1' ?_ ?_
        · intro hS hbit
          rw [if_neg (by omega)]
          rw [if_pos (by omega)]
          rw [w32_s (by omega)]
          have hor := bs_or g1' (si c hc)
          have le : M1 16 3 ≤ i_or (M1 16 3) (M1 17 (c : Int)) := bs_le g1' hor (fun j q => Or.inl q)
          refine k2 _ ⟨frC_up f' (by omega), ?_, ?_, ?_, ?_, ?_, ?_, ?_⟩
          · rw [up_eq]; exact bs_bp hor
          · rw [up_eq]; intro s q
            rcases (bp_iff hor s).mp q with q | ⟨q8, i, qi, qe⟩
            · exact g2' s q
            · rw [← qe]; exact gRch_in hc hS (g2' _ hbit) qi (by omega)
          · rw [up_eq]; exact (bp_iff hor _).mpr (Or.inl g3')
          · rw [up_eq]; omega
          · rw [up_eq]; intro e r hr hrS hrb i hi h8
            have e2 : M1 16 3 = a := by omega
            have e3 : i_or (M1 16 3) (M1 17 (c : Int)) = M1 16 3 := by omega
            rw [e3] at hrb ⊢
            by_cases q : r = c
            · subst q; rw [← e3]; exact (bp_iff hor _).mpr (Or.inr ⟨h8, i, hi, rfl⟩)
            · exact g5' e2 r (by omega) hrS hrb i hi h8
          · rw [up_eq]; intro s q; exact (bp_iff hor s).mpr (Or.inl (g6' s q))
          · rw [up_eq]; intro r hr hrS hrb i hi h8
            by_cases q : r = c
            · subst q; exact (bp_iff hor _).mpr (Or.inr ⟨h8, i, hi, rfl⟩)
            · exact (bp_iff hor _).mpr (Or.inl (g7' r (by omega) hrS hrb i hi h8))
        · intro hno
          rw [if_pos (by omega)]
          rw [w32_s (by omega)]
          refine k2 _ ⟨f', g1', g2', g3', g4', fun e r hr hrS hrb i hi h8 => ?_, g6', fun r hr hrS hrb i hi h8 => ?_⟩
          · by_cases q : r = c
            · subst q; exact absurd ⟨hrS, hrb⟩ hno
            · exact g5' e r (by omega) hrS hrb i hi h8
          · by_cases q : r = c
            · subst q; exact absurd ⟨hrS, g6' _ hrb⟩ hno
            · exact g7' r (by omega) hrS hrb i hi h8
      · exact ⟨f, g1, g2, g3, Int.le_of_eq ha, fun _ r hr => absurd hr (Nat.not_lt_zero r), g4, fun r hr => absurd hr (Nat.not_lt_zero r)⟩
  · refine ⟨frC_up frC_rf (by omega), ?_, ?_, ?_, ?_, ?_⟩
    · dsimp only; rw [up_eq]; exact bs_bp o1
    · dsimp only; rw [up_eq]; intro s q; rw [(bp_iff o1 s).mp q]; exact gRch_0
    · dsimp only; rw [up_eq]; exact (bp_iff o1 _).mpr rfl
    · dsimp only; rw [up_eq]; intro s q; exact (bp_iff o1 _).mpr q
    · intro q; dsimp only at q; omega
end S81
