/-! the reference counts trees -/
section S9o
variable {B : Nat → Nat} {M : (Nat → Int → Int)} {d : Nat} {Q : Int → (Nat → Int → Int) → Prop} {r i n s k : Nat}
theorem lc_gt {a b : Int} : 0 < l_cmp a b ↔ b < a := by unfold l_cmp; split; omega; split <;> omega
theorem lc_lt {a b : Int} : l_cmp a b < 0 ↔ a < b := by unfold l_cmp; split; omega; split <;> omega
theorem lc_eq {a b : Int} : l_cmp a b = 0 ↔ a = b := by unfold l_cmp; split; omega; split <;> omega
theorem w64_i {x : Int} (h1 : -9223372036854775808 ≤ x) (h2 : x < 9223372036854775808) : w64 x = x := by unfold w64; omega
theorem m_plus {a b : Nat} (ha : a ≤ tG) (hb : b ≤ tG) (hQ : Q ((min (a + b) tG : Nat) : Int) M) : am_s am_P am_gg (d + 1) 322 [.inr (.inl (a : Int)), .inr (.inl (b : Int))] M Q := by
  refine (v_322 _ _ _ _ _).mpr ?_
  unfold tG at ha hb hQ
  rw [w64_i (by omega) (by omega)]
  refine @p_if _ _ _ _ ?_ ?_
  · intro h; have h := lc_gt.mp h
    rw [show min (a + b) 1000000000000 = 1000000000000 by omega] at hQ; exact hQ
  · intro h; have h := mt lc_gt.mpr h
    rw [show min (a + b) 1000000000000 = a + b by omega] at hQ; exact hQ
theorem tdiv_n {a b : Nat} : Int.tdiv (a : Int) (b : Int) = ((a / b : Nat) : Int) := Int.ofNat_tdiv a b |>.symm
theorem mul_over {a b G : Nat} (h0 : 0 < a) : G / a < b ↔ G < a * b := by
  rw [Nat.div_lt_iff_lt_mul h0, Nat.mul_comm]
theorem m_times {a b : Nat} (ha : a ≤ tG) (hb : b ≤ tG) (hQ : Q ((min (a * b) tG : Nat) : Int) M) : am_s am_P am_gg (d + 1) 323 [.inr (.inl (a : Int)), .inr (.inl (b : Int))] M Q := by
  refine (v_323 _ _ _ _ _).mpr ?_
  have e0 : ((1000000000000 : Nat) : Int) = 1000000000000 := rfl
  unfold tG at ha hb hQ
  refine @p_if _ _ _ _ ?_ ?_
  · intro h; have h := lc_gt.mp h
    rw [if_neg (by omega)]
    rw [← e0, tdiv_n]
    have hd : 1000000000000 / a ≤ 1000000000000 := Nat.div_le_self _ _
    have ho := mul_over (G := 1000000000000) (b := b) (show 0 < a by omega)
    rw [← Int.natCast_mul]
    revert hd ho hQ
    generalize 1000000000000 / a = q
    generalize a * b = p
    intro hQ hd ho
    rw [w64_i (by omega) (by omega)]
    refine @p_if _ _ _ _ ?_ ?_
    · intro g; have g := lc_gt.mp g
      have g := ho.mp (by omega)
      rw [show min p 1000000000000 = 1000000000000 by omega] at hQ; exact hQ
    · intro g; have g := mt lc_gt.mpr g
      have g : ¬ 1000000000000 < p := fun z => by have := ho.mpr z; omega
      rw [show min p 1000000000000 = p by omega] at hQ
      rw [w64_i (by omega) (by omega)]; exact hQ
  · intro h; have h := mt lc_gt.mpr h
    have e : a = 0 := by omega
    subst e
    rw [Nat.zero_mul] at hQ
    rw [show ((0 : Nat) : Int) * (b : Int) = 0 from Int.zero_mul _]
    exact hQ
/-- what is kept of counts is right -/
def mT (B : Nat → Nat) (M : (Nat → Int → Int)) : Prop := (∀ s n : Nat, s < 8 → n < 25 → M 193 ((25 * s + n : Nat) : Int) = -1 ∨ M 193 ((25 * s + n : Nat) : Int) = (tT B s n : Int)) ∧ (∀ r i n : Nat, r < B 0 → i < gsz B r → n < 25 → M 194 ((25 * (4 * r + i) + n : Nat) : Int) = -1 ∨ M 194 ((25 * (4 * r + i) + n : Nat) : Int) = (tR B r i n : Int))
def tI (B : Nat → Nat) (M : (Nat → Int → Int)) : Prop := rb (M 174) 0 B ∧ mT B M
def tF (M M' : (Nat → Int → Int)) : Prop := ∀ c, c ≠ 193 → c ≠ 194 → M' c = M c
theorem tF_rf : tF M M := fun _ _ _ => rfl
theorem tF_tr {M' M'' : (Nat → Int → Int)} (h : tF M M') (h' : tF M' M'') : tF M M'' := fun c h1 h2 => (h' c h1 h2).trans (h c h1 h2)
theorem tI_s (h : tI B M) (hs : s < 8) (hn : n < 25) : tI B (am_up M 193 ((25 * s + n : Nat) : Int) (tT B s n : Int)) := by
  refine ⟨by rw [up_nc _ _ _ _ (by decide)]; exact h.1, fun s' n' h1 h2 => ?_, fun r i n' h1 h2 h3 => by rw [up_nc _ _ _ _ (by decide)]; exact h.2.2 r i n' h1 h2 h3⟩
  rw [up_ci]
  by_cases e : s' = s ∧ n' = n
  · obtain ⟨rfl, rfl⟩ := e
    rw [if_pos rfl]; exact Or.inr rfl
  · rw [if_neg (by omega)]; exact h.2.1 s' n' h1 h2
theorem tI_r (hW : gW B) (h : tI B M) (hr : r < B 0) (hi : i < gsz B r) (hn : n < 25) : tI B (am_up M 194 ((25 * (4 * r + i) + n : Nat) : Int) (tR B r i n : Int)) := by
  refine ⟨by rw [up_nc _ _ _ _ (by decide)]; exact h.1, fun s' n' h1 h2 => by rw [up_nc _ _ _ _ (by decide)]; exact h.2.1 s' n' h1 h2, fun r' i' n' h1 h2 h3 => ?_⟩
  rw [up_ci]
  by_cases e : r' = r ∧ i' = i ∧ n' = n
  · obtain ⟨rfl, rfl, rfl⟩ := e
    rw [if_pos rfl]; exact Or.inr rfl
  · have := (hW.2.2.2.1 r hr).2.2.1
    have := (hW.2.2.2.1 r' h1).2.2.1
    rw [if_neg (by omega)]; exact h.2.2 r' i' n' h1 h2 h3
/-- the reference's counts at a depth -/
def rTO (B : Nat → Nat) (d s n : Nat) : Prop := ∀ (M : (Nat → Int → Int)) (Q : Int → (Nat → Int → Int) → Prop), tI B M → (∀ M', tI B M' → tF M M' → Q (tT B s n : Int) M') → am_s am_P am_gg d 324 [.inr (.inr 174), .inl (s : Int), .inl (n : Int)] M Q
def rRO (B : Nat → Nat) (d r i n : Nat) : Prop := ∀ (M : (Nat → Int → Int)) (Q : Int → (Nat → Int → Int) → Prop), tI B M → (∀ M', tI B M' → tF M M' → Q (tR B r i n : Int) M') → am_s am_P am_gg d 325 [.inr (.inr 174), .inl (r : Int), .inl (i : Int), .inl (n : Int)] M Q
theorem rTO_mono {d' : Nat} (h : rTO B d s n) (hd : d ≤ d') : rTO B d' s n := fun M Q hI hQ => am_s_mono hd (h M Q hI hQ) (fun _ _ q => q)
theorem rRO_mono {d' : Nat} (h : rRO B d r i n) (hd : d ≤ d') : rRO B d' r i n := fun M Q hI hQ => am_s_mono hd (h M Q hI hQ) (fun _ _ q => q)
def tb (B : Nat → Nat) (r i k n : Nat) : Nat := min (tT B (gsg B r i) k * tR B r (i + 1) (n - k)) tG
theorem tb_le : tb B r i k n ≤ tG := Nat.min_le_right _ _
theorem m_both (hW : gW B) (hr : r < B 0) (hi : i < gsz B r) (hkn : k ≤ n) (hn : n ≤ 24) (h1 : rRO B d r (i + 1) (n - k)) (h2 : 0 < tR B r (i + 1) (n - k) → rTO B d (gsg B r i) k) (hd : 1 ≤ d) (hI : tI B M) (hQ : ∀ M', tI B M' → tF M M' → Q (tb B r i k n : Int) M') : am_s am_P am_gg (d + 1) 326 [.inr (.inr 174), .inl (r : Int), .inl (i : Int), .inl (k : Int), .inl (n : Int)] M Q := by
  refine (v_326_174 _ _ _ _ _ _ _).mpr ?_
  have hz := (hW.2.2.2.1 r hr).2.2.1
  have hn16 := hW.1
  rw [w32_s (by omega), show w32 ((n : Int) - (k : Int)) = ((n - k : Nat) : Int) by rw [w32_i (by omega) (by omega)]; omega]
  refine h1 _ _ hI (fun M1 hI1 hF1 => ?_)
  have hl := tR_le (B := B) (r := r) (i := i + 1) (n := n - k)
  refine @p_if _ _ _ _ ?_ ?_
  · intro h; have h := lc_eq.mp h
    have e : tb B r i k n = 0 := by unfold tb; rw [show tR B r (i + 1) (n - k) = 0 by omega, Nat.mul_zero]; rfl
    have := hQ M1 hI1 hF1
    rw [e] at this; exact this
  · intro h; have h := mt lc_eq.mpr h
    obtain ⟨d, rfl⟩ : ∃ e, d = e + 1 := ⟨d - 1, by omega⟩
    refine m_sign hI1.1 (by omega) (by omega) ?_
    refine h2 (by omega) _ _ hI1 (fun M2 hI2 hF2 => ?_)
    exact m_times tT_le hl (hQ M2 hI2 (tF_tr hF1 hF2))
theorem m_rowEnd (hW : gW B) (hr : r < B 0) (hn : n ≤ 24) : rRO B (d + 2) r (gsz B r) n := by
  intro M Q hI hQ
  refine (v_325_174 _ _ _ _ _ _).mpr ?_
  have hz := (hW.2.2.2.1 r hr).2.2.1
  have hn16 := hW.1
  refine m_size hI.1 (by omega) ?_
  rw [show w32 ((gsz B r : Int) - (gsz B r : Int)) = 0 by rw [Int.sub_self]; rfl, show w32 (0 - 1) = -1 from rfl]
  rw [if_pos (by omega)]
  have q := hQ M hI tF_rf
  rw [tR_end] at q
  refine @p_if _ _ _ _ ?_ ?_
  · intro h; rw [if_pos (by omega)] at q; exact q
  · intro h; rw [if_neg (by omega)] at q; exact q
theorem m_rowTrees (hW : gW B) (hr : r < B 0) (hi : i < gsz B r) (hn : n ≤ 24) (hd : 1 ≤ d) (h1 : ∀ k, 1 ≤ k → k ≤ n → rRO B d r (i + 1) (n - k)) (h2 : ∀ k, 1 ≤ k → k + (gsz B r - i - 1) ≤ n → (gsz B r - i - 1 = 0 → k = n) → rTO B d (gsg B r i) k) : rRO B (d + 2) r i n := by
  intro M Q hI hQ
  refine (v_325_174 _ _ _ _ _ _).mpr ?_
  have hz := (hW.2.2.2.1 r hr).2.2.1
  have hn16 := hW.1
  refine m_size hI.1 (by omega) ?_
  obtain ⟨m, hm⟩ : ∃ m, gsz B r = i + 1 + m := ⟨gsz B r - i - 1, by omega⟩
  rw [show w32 ((gsz B r : Int) - (i : Int)) = ((m + 1 : Nat) : Int) by rw [w32_i (by omega) (by omega)]; omega, show w32 (((m + 1 : Nat) : Int) - 1) = (m : Int) by rw [w32_i (by omega) (by omega)]; omega]
  rw [if_neg (by omega)]
  refine @p_if _ _ _ _ ?_ ?_
  · intro hmn
    rw [show w32 (4 * (r : Int)) = ((4 * r : Nat) : Int) by rw [w32_i (by omega) (by omega)]; rfl, show w32 (((4 * r : Nat) : Int) + (i : Int)) = ((4 * r + i : Nat) : Int) by rw [w32_i (by omega) (by omega)]; rfl, show w32 (25 * ((4 * r + i : Nat) : Int)) = ((25 * (4 * r + i) : Nat) : Int) by rw [w32_i (by omega) (by omega)]; rfl, show w32 (((25 * (4 * r + i) : Nat) : Int) + (n : Int)) = ((25 * (4 * r + i) + n : Nat) : Int) by rw [w32_i (by omega) (by omega)]; rfl]
    rw [if_pos (by omega)]
    have hk := hI.2.2 r i n hr hi (by omega)
    refine @p_if _ _ _ _ ?_ ?_
    · intro hc
      clear hk hc
      have ht0 : ∀ k, n - m ≤ k → k < n → tT B (gsg B r i) (k + 1) * tR B r (i + 1) (n - (k + 1)) = 0 := fun k h3 h4 => by rw [tR_0 (by omega), Nat.mul_zero]
      have e2 : tR B r i n = min (q_sm (fun k => tT B (gsg B r i) (k + 1) * tR B r (i + 1) (n - (k + 1))) (n - m)) tG := by rw [tR_step hi, q_sm_cut (by omega) ht0]
      refine p_for (S := (Nat → Int → Int) × Nat) (X := fun k x => am_x am_P am_gg (d + 1) am_k325 2 Q 72 [some (.inr (.inr 174)), some (.inl ((r : Int))), some (.inl ((i : Int))), some (.inl ((n : Int))), some (.inl ((m : Int))), some (.inl (((25 * (4 * r + i) + n : Nat) : Int))), some (.inr (.inl (x.2 : Int))), none, some (.inl (k))] [] x.1 0 0) (n - m + 1) (fun k x => 1 ≤ k ∧ tI B x.1 ∧ tF M x.1 ∧ x.2 = min (q_sm (fun k => tT B (gsg B r i) (k + 1) * tR B r (i + 1) (n - (k + 1))) (k - 1)) tG) ?_ ?_ 1 (M, 0) (by omega) ⟨Nat.le_refl _, hI, tF_rf, rfl⟩
      · rintro ⟨M1, g⟩ ⟨_, hI1, hF1, hg⟩
        refine (h_325_72_174 _ _ _ _ _ _ _ _ _ _).mpr ?_
        rw [w32_i (by omega) (by omega)]
        rw [if_pos (by omega)]
        rw [if_pos (by omega)]
        have e3 : g = tR B r i n := by rw [e2]; exact hg
        dsimp only
        rw [e3]
        exact hQ _ (tI_r hW hI1 hr hi (by omega)) (fun c h3 h4 => by rw [up_nc _ _ _ _ h4]; exact hF1 c h3 h4)
      · rintro k ⟨M1, g⟩ hk ⟨hk1, hI1, hF1, hg⟩ go
        refine (h_325_72_174 _ _ _ _ _ _ _ _ _ _).mpr ?_
        rw [w32_i (by omega) (by omega)]
        rw [if_neg (by omega)]
        obtain ⟨k, rfl⟩ : ∃ j, k = j + 1 := ⟨k - 1, by omega⟩
        have hgl : g ≤ tG := by
          have hg' : g = _ := hg
          rw [hg']; exact Nat.min_le_right _ _
        have body : m = 0 ∧ k + 1 = n ∨ 0 < m → am_s am_P am_gg (d + 1) 326 [.inr (.inr 174), .inl (r : Int), .inl (i : Int), .inl ((k + 1 : Nat) : Int), .inl (n : Int)] M1 (fun r3 M3 => am_s am_P am_gg (d + 1) 322 [.inr (.inl (g : Int)), .inr (.inl r3)] M3 (fun r4 M4 => am_x am_P am_gg (d + 1) am_k325 2 Q 72 [some (.inr (.inr 174)), some (.inl ((r : Int))), some (.inl ((i : Int))), some (.inl ((n : Int))), some (.inl ((m : Int))), some (.inl (((25 * (4 * r + i) + n : Nat) : Int))), some (.inr (.inl r4)), none, some (.inl (w32 (((k + 1 : Nat) : Int) + 1)))] [] M4 0 0)) := by
          intro hm0
          refine m_both hW hr hi (by omega) hn (h1 _ (by omega) (by omega)) (fun _ => h2 _ (by omega) (by omega) (by omega)) hd hI1 (fun M2 hI2 hF2 => ?_)
          refine m_plus hgl tb_le ?_
          rw [w32_s (by omega)]
          refine go (M2, _) ⟨by omega, hI2, tF_tr hF1 hF2, ?_⟩
          dsimp only at hg ⊢
          rw [hg]
          exact q_cap2 _ _ _
        refine @p_if _ _ _ _ ?_ ?_
        · intro hm0
          refine @p_if _ _ _ _ ?_ ?_
          · intro hkn
            rw [w32_s (by omega)]
            refine go (M1, g) ⟨by omega, hI1, hF1, ?_⟩
            dsimp only at hg ⊢
            rw [hg]
            show _ = min (q_sm _ k + _ * _) tG
            rw [show tR B r (i + 1) (n - (k + 1)) = 0 by rw [show i + 1 = gsz B r by omega, tR_end, if_neg (by omega)], Nat.mul_zero]
            rfl
          · intro hkn; exact body (by omega)
        · intro hm0; exact body (by omega)
    · intro hc
      have hc := mt lc_lt.mpr hc
      rw [if_pos (by omega)]
      rcases hk with hk | hk
      · omega
      · rw [hk]; exact hQ M hI tF_rf
  · intro hmn
    have q := hQ M hI tF_rf
    rw [tR_0 (by omega)] at q; exact q
theorem m_treesLet (hW : gW B) (hs : 16 ≤ s ∧ s < 32) (hn : n ≤ 24) : rTO B (d + 1) s n := by
  intro M Q hI hQ
  refine (v_324_174 _ _ _ _ _).mpr ?_
  rw [if_neg (by omega)]
  have q := hQ M hI tF_rf
  rw [tT_let hW (by omega) hn] at q
  refine @p_if _ _ _ _ ?_ ?_
  · intro h; rw [if_pos (by omega)] at q; exact q
  · intro h; rw [if_neg (by omega)] at q; exact q
theorem m_treesOf (hW : gW B) (hs : s < 8) (hn : n ≤ 24) (hd : 2 ≤ d) (h : ∀ r, r < B 0 → gon B r = true → gsy B r = s → rRO B d r 0 n) : rTO B (d + 1) s n := by
  intro M Q hI hQ
  obtain ⟨d, rfl⟩ : ∃ e, d = e + 2 := ⟨d - 2, by omega⟩
  refine (v_324_174 _ _ _ _ _).mpr ?_
  have hn16 := hW.1
  rw [if_pos (by omega)]
  rw [show w32 (25 * (s : Int)) = ((25 * s : Nat) : Int) by rw [w32_i (by omega) (by omega)]; rfl, show w32 (((25 * s : Nat) : Int) + (n : Int)) = ((25 * s + n : Nat) : Int) by rw [w32_i (by omega) (by omega)]; rfl]
  rw [if_pos (by omega)]
  have hk := hI.2.1 s n hs (by omega)
  refine @p_if _ _ _ _ ?_ ?_
  · intro hc
    clear hk hc
    refine p_for (S := (Nat → Int → Int) × Nat) (X := fun k x => am_x am_P am_gg (d + 2) am_k324 2 Q 48 [some (.inr (.inr 174)), some (.inl ((s : Int))), some (.inl ((n : Int))), some (.inl (((25 * s + n : Nat) : Int))), some (.inr (.inl (x.2 : Int))), none, some (.inl (k))] [] x.1 0 0) (B 0) (fun k x => tI B x.1 ∧ tF M x.1 ∧ x.2 = min (q_sm (fun r => if gon B r = true ∧ gsy B r = s then tR B r 0 n else 0) k) tG) ?_ ?_ 0 (M, 0) (by omega) ⟨hI, tF_rf, rfl⟩
    · rintro ⟨M1, g⟩ ⟨hI1, hF1, hg⟩
      refine (h_324_48_174 _ _ _ _ _ _ _ _).mpr (m_rules hI1.1 ?_)
      rw [if_neg (by omega)]
      rw [if_pos (by omega)]
      dsimp only at hg ⊢
      rw [hg, ← tT_sym hW hs hn]
      exact hQ _ (tI_s hI1 hs (by omega)) (fun c h3 h4 => by rw [up_nc _ _ _ _ h3]; exact hF1 c h3 h4)
    · rintro k ⟨M1, g⟩ hk ⟨hI1, hF1, hg⟩ go
      refine (h_324_48_174 _ _ _ _ _ _ _ _).mpr (m_rules hI1.1 ?_)
      rw [if_pos (by omega)]
      have hgl : g ≤ tG := by
          have hg' : g = _ := hg
          rw [hg']; exact Nat.min_le_right _ _
      have skip : ¬ (gon B k = true ∧ gsy B k = s) → am_x am_P am_gg (d + 2) am_k324 2 Q 48 [some (.inr (.inr 174)), some (.inl ((s : Int))), some (.inl ((n : Int))), some (.inl (((25 * s + n : Nat) : Int))), some (.inr (.inl (g : Int))), none, some (.inl (w32 ((k : Int) + 1)))] [] M1 0 0 := by
        intro hno
        rw [w32_s (by omega)]
        refine go (M1, g) ⟨hI1, hF1, ?_⟩
        dsimp only at hg ⊢
        rw [hg]
        show _ = min (q_sm _ k + (if _ then _ else 0)) tG
        rw [if_neg hno]; rfl
      refine m_isOn hI1.1 hW.on (by omega) ?_ ?_
      · intro ho
        rw [if_neg (by omega)]
        refine m_sym hI1.1 (by omega) ?_
        refine @p_if _ _ _ _ ?_ ?_
        · intro e
          have e : gsy B k = s := by omega
          refine h k hk ho e _ _ hI1 (fun M2 hI2 hF2 => ?_)
          refine m_plus hgl tR_le ?_
          rw [w32_s (by omega)]
          refine go (M2, _) ⟨hI2, tF_tr hF1 hF2, ?_⟩
          dsimp only at hg ⊢
          rw [hg]
          show _ = min (q_sm _ k + (if _ then _ else 0)) tG
          rw [if_pos ⟨ho, e⟩]
          exact q_cap _ _ _
        · intro e; exact skip (fun q => e (by omega))
      · intro ho
        rw [if_pos (by omega)]
        exact skip (fun q => by rw [ho] at q; exact absurd q.1 (by decide))
  · intro hc
    have hc := mt lc_lt.mpr hc
    rw [if_pos (by omega)]
    rcases hk with hk | hk
    · omega
    · rw [hk]; exact hQ M hI tF_rf
/-- a row, if what its signs make is counted -/
theorem m_rowAll (hW : gW B) (hr : r < B 0) (D : Nat) (hd : 2 ≤ D) : ∀ j i n, i + j = gsz B r → n ≤ 24 → (∀ i' k, i ≤ i' → i' < gsz B r → 1 ≤ k → (k < n ∨ k = n ∧ j = 1) → rTO B D (gsg B r i') k) → rRO B (D + 2 * j) r i n := by
  intro j
  induction j with
  | zero =>
    intro i n hi hn _
    obtain ⟨D, rfl⟩ : ∃ e, D = e + 2 := ⟨D - 2, by omega⟩
    have e : i = gsz B r := by omega
    subst e
    exact m_rowEnd hW hr hn
  | succ j ih =>
    intro i n hi hn h
    rw [show D + 2 * (j + 1) = D + 2 * j + 2 by omega]
    refine m_rowTrees hW hr (by omega) hn (by omega) (fun k h1 h2 => ih (i + 1) (n - k) (by omega) (by omega) (fun i' k' a1 a2 a3 a4 => h i' k' (by omega) a2 a3 (by omega))) (fun k h1 h2 h3 => rTO_mono (h i k (by omega) (by omega) h1 (by omega)) (by omega))
theorem m_trees0 (hW : gW B) : ∃ pos : Nat → Nat, (∀ s, pos s < 8) ∧ ∀ N s n, 8 * n + pos s < N → s < 8 → n ≤ 24 → rTO B (40 * n + 3 * pos s + 40) s n := by
  obtain ⟨pos, hp, hu⟩ := hW.2.2.2.2
  refine ⟨pos, hp, ?_⟩
  intro N
  induction N with
  | zero => intro s n h; omega
  | succ N ih =>
    intro s n hN hs hn
    have hps := hp s
    rw [show 40 * n + 3 * pos s + 40 = 40 * n + 3 * pos s + 39 + 1 by omega]
    refine m_treesOf hW hs hn (by omega) (fun r hr ho hy => ?_)
    have hg := hW.2.2.2.1 r hr
    by_cases h1 : gsz B r = 1
    · refine rRO_mono (m_rowAll hW hr (40 * n + 3 * pos s + 37) (by omega) 1 0 n (by omega) hn (fun i' k a1 a2 a3 a4 => ?_)) (by omega)
      have e : i' = 0 := by omega
      subst e
      rcases hg.2.2.2.2 0 (by omega) with g | g
      · have := hp (gsg B r 0)
        have hlt := hu r hr h1 g
        rw [hy] at hlt
        exact rTO_mono (ih _ k (by omega) g (by omega)) (by omega)
      · exact rTO_mono (m_treesLet (d := 0) hW g (by omega)) (by omega)
    · refine rRO_mono (m_rowAll hW hr (40 * n + 3 * pos s + 31) (by omega) (gsz B r) 0 n (by omega) hn (fun i' k a1 a2 a3 a4 => ?_)) (by omega)
      rcases hg.2.2.2.2 i' (by omega) with g | g
      · have := hp (gsg B r i')
        exact rTO_mono (ih _ k (by omega) g (by omega)) (by omega)
      · exact rTO_mono (m_treesLet (d := 0) hW g (by omega)) (by omega)
theorem m_trees (hW : gW B) (hs : s < 8 ∨ (16 ≤ s ∧ s < 32)) (hn : n ≤ 24) : rTO B (40 * n + 61) s n := by
  rcases hs with hs | hs
  · obtain ⟨pos, hp, h⟩ := m_trees0 hW
    have := hp s
    exact rTO_mono (h _ s n (Nat.lt_succ_self _) hs hn) (by omega)
  · exact rTO_mono (m_treesLet (d := 0) hW hs hn) (by omega)
theorem m_rows (hW : gW B) (hr : r < B 0) (hi : i ≤ gsz B r) (hn : n ≤ 24) : rRO B (40 * n + 70) r i n := by
  have hg := hW.2.2.2.1 r hr
  refine rRO_mono (m_rowAll hW hr (40 * n + 61) (by omega) (gsz B r - i) i n (by omega) hn (fun i' k a1 a2 a3 a4 => rTO_mono (m_trees hW (hg.2.2.2.2 i' a2) (by omega)) (by omega))) (by omega)
theorem m_bothAll (hW : gW B) (hr : r < B 0) (hi : i < gsz B r) (hkn : k ≤ n) (hn : n ≤ 24) (hd : 40 * n + 71 ≤ d) (hI : tI B M) (hQ : ∀ M', tI B M' → tF M M' → Q (tb B r i k n : Int) M') : am_s am_P am_gg d 326 [.inr (.inr 174), .inl (r : Int), .inl (i : Int), .inl (k : Int), .inl (n : Int)] M Q := by
  obtain ⟨d, rfl⟩ : ∃ e, d = e + 1 := ⟨d - 1, by omega⟩
  have hg := hW.2.2.2.1 r hr
  exact m_both hW hr hi hkn hn (rRO_mono (m_rows hW hr (by omega) (by omega)) (by omega)) (fun _ => rTO_mono (m_trees hW (hg.2.2.2.2 i hi) (by omega)) (by omega)) (by omega) hI hQ
end S9o
