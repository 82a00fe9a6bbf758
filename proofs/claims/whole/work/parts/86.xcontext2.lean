/-! the class's CONTEXTS, round by round; the orders -/
section S86
variable {B X : Nat → Nat} {M M0 : (Nat → Int → Int)} {d : Nat} {Q : Int → (Nat → Int → Int) → Prop} {r i : Nat}
theorem xKF_g (h : xKF M0 M) (hg : xgb B M0 2) : xgb B M 2 := xgb_eq hg (fun c _ _ => h c (by omega))
theorem xKF_R (h : xKF M0 M) (hr : kRow B (gK B) M0 r) : kRow B (gK B) M r := by
  unfold kRow at hr ⊢
  rw [h 27 (by decide), h 28 (by decide), h 29 (by decide)]; exact hr
theorem xKF_K {K : Nat → Nat} (h : xKF M0 M) (hK : kA 23 K M0) : kA 23 K M := fun s hs => by rw [h 23 (by decide)]; exact hK s hs
theorem x_improveContexts (hW : gW B) (hg0 : xgb B M0 2) (hK0 : kA 23 (gK B) M0) (hr : r < B 0) (ho : gon B r = true) (hrow : kRow B (gK B) M0 r) {n : Nat} {fl : Int} (hI : xI B M0 M n (r * 4) fl X) (hQ : ∀ M' X' (b : Int), (b = 0 ∨ b = 1) → xI B M0 M' n ((r + 1) * 4) (if b = 0 then fl else 1) X' → Q b M') : am_s am_P am_gg (d + 3) 37 [.inr (.inr 23), .inl (r : Int)] M Q := by
  have hn := hW.1
  have hNK := NK_eq
  have hp := gpos_ok hW
  have hbK := (gK_ok hW).1.1
  obtain ⟨gs, gn⟩ := gX_ok hW
  obtain ⟨hsy, hz, hz4, hwt, hs⟩ := hW.2.2.2.1 r hr
  refine (v_37_23 _ _ _ _).mpr ?_
  refine p_for (S := (Int × (Nat → Nat)) × (Nat → Int → Int)) (X := fun i x => am_x am_P am_gg (d + 2) am_k37 4 Q 4 [some (.inr (.inr 23)), some (.inl ((r : Int))), some (.inl (x.1.1)), some (.inl (i)), none, none, none] [] x.2 0 0) (gsz B r) (fun c x => (x.1.1 = 0 ∨ x.1.1 = 1) ∧ xI B M0 x.2 n (r * 4 + c) (if x.1.1 = 0 then fl else 1) x.1.2) ?_ ?_ 0 ((0, X), M) (by omega) ⟨Or.inl rfl, hI⟩
  · intro y ⟨hb01, hy⟩
    obtain ⟨⟨b, X⟩, M1⟩ := y
    dsimp only at hb01 hy ⊢
    refine (h_37_4_23 _ _ _ _ _ _).mpr ?_
    rw [xg_sz (xKF_g hy.1 hg0) hr]
    rw [if_pos (by omega)]
    rw [if_neg (by omega)]
    rw [if_pos (by omega)]
    refine hQ M1 X b hb01 (xI_skip hW hy (by omega) (fun r' i' h1 h2 h4 o => ?_))
    have e : r' = r := by omega
    subst e
    have := o.2.2.1
    omega
  · intro c y hc ⟨hb01, hy⟩ k
    obtain ⟨⟨b, X⟩, M1⟩ := y
    dsimp only at hb01 hy ⊢
    have hy0 := hy
    obtain ⟨f, a, bb, fi, fi2, f8, cl⟩ := hy
    have hg := xKF_g f hg0
    have hK := xKF_K f hK0
    have hrw := xKF_R f hrow
    have hsc := hs c hc
    have hle : ∀ s, s < 8 → X s ≤ NK := fun s hs => (a s hs).2
    have nx : ∀ (z1 z2 z3 : Option am_v), (xOK B (gK B) X r c → X (gsg B r c) ≤ xky B (gK B) X r c) → am_x am_P am_gg (d + 2) am_k37 4 Q 4 [some (.inr (.inr 23)), some (.inl ((r : Int))), some (.inl (b)), some (.inl (((c + 1 : Nat) : Int))), z1, z2, z3] [] M1 0 0 := by
      intro z1 z2 z3 hno
      refine am_x_le [some (.inr (.inr 23)), some (.inl ((r : Int))), some (.inl (b)), some (.inl (((c + 1 : Nat) : Int))), none, none, none] (am_lb_le _ _ ⟨rfl, rfl, rfl, rfl, trivial⟩) ?_
      refine k ((b, X), M1) ⟨hb01, xI_skip hW hy0 (by omega) (fun r' i' h1 h2 h4 o => ?_)⟩
      have e1 : r' = r := by omega
      subst e1
      have e2 : i' = c := by omega
      subst e2
      exact hno o
    refine (h_37_4_23 _ _ _ _ _ _).mpr ?_
    rw [xg_sz hg hr, w32_s (i := c) (by omega)]
    rw [if_pos (by omega)]
    rw [if_pos (by omega)]
    refine x_signAt hg hW hr hc ?_
    refine @p_if _ _ _ _ ?_ ?_
    · intro h8
      have h8 : gsg B r c < 8 := by omega
      rw [xg_rt hg]
      refine @p_if _ _ _ _ ?_ ?_
      · intro e
        exact nx _ _ _ (fun o => absurd (show gsg B r c = B 2 by omega) o.2.2.2.2.1)
      · intro e
        refine x_isFrame hW hg hK a hrw hr hc h8 ?_ ?_
        · intro hav hX
          rw [if_neg (by omega)]
          refine x_frameCost hW hg hK a hrw hr hc h8 hav ?_
          refine @p_if _ _ _ _ ?_ ?_
          · intro q
            exact nx _ _ _ (fun o => by have := o.2.2.2.2.2.2.2; omega)
          · intro q
            refine x_frameCost hW hg hK a hrw hr hc h8 hav (x_frameRules hW hg hK a hrw hr hc h8 hav ?_)
            have ok : xOK B (gK B) X r c := ⟨hr, ho, hc, h8, by omega, hX, hav, by omega⟩
            obtain ⟨b16, b4, bm⟩ := xOK_b hW hp hbK bb.1 ok
            have dl := xky_lt b16 b4 bm ok.2.2.2.2.2.2.2
            have ek : i_or (i_or (i_shl (i_or (i_shl (xcc B (gK B) X r c : Int) 12) (xmm B (gK B) X r c : Int)) 6) (i_shl (r : Int) 2)) (c : Int) = (xky B (gK B) X r c : Int) := by
              unfold xky at dl ⊢
              rw [show (12 : Int) = ((12 : Nat) : Int) from rfl, shl_mul (n := 12) (by omega) (by omega), or_add (n := 12) (by omega) (by omega) (by omega), show (6 : Int) = ((6 : Nat) : Int) from rfl, shl_mul (n := 6) (by omega) (by omega), show (2 : Int) = ((2 : Nat) : Int) from rfl, shl_mul (n := 2) (by omega) (by omega), or_add (n := 6) (by omega) (by omega) (by omega), or_add (n := 2) (by omega) (by omega) (by omega)]
              congr 1; omega
            rw [ek, (a _ h8).1]
            rw [if_pos (by omega)]
            refine @p_if _ _ _ _ ?_ ?_
            · intro hlt
              rw [if_pos (by omega)]
              refine am_x_le [some (.inr (.inr 23)), some (.inl ((r : Int))), some (.inl (1)), some (.inl (((c + 1 : Nat) : Int))), none, none, none] (am_lb_le _ _ ⟨rfl, rfl, rfl, rfl, trivial⟩) ?_
              have up := bX_up hW bb hle ok
              refine k ((1, gU X (gsg B r c) (xky B (gK B) X r c)), am_up M1 24 (gsg B r c : Int) (xky B (gK B) X r c : Int)) ⟨Or.inr rfl, fun k hk => ?_, fun s hs => ?_, bX_take hW bb hle ok, fun s hs hrk => ?_, fun s hs hrk hne hlt2 => ?_, fun h8' => ?_, fun z => ?_⟩
              · show am_up M1 24 _ _ k = _
                rw [up_nc _ _ _ _ hk]; exact f k hk
              · show am_up M1 24 (gsg B r c : Int) (xky B (gK B) X r c : Int) 24 (s : Int) = _ ∧ _
                rw [up_ci]
                dsimp only
                by_cases q2 : s = gsg B r c
                · subst q2; rw [if_pos rfl, gU_eq]; exact ⟨rfl, by omega⟩
                · rw [if_neg (by omega), gU_ne q2]; exact a s hs
              · dsimp only
                by_cases q2 : s = gsg B r c
                · subst q2
                  have h1 := fi _ hs hrk
                  omega
                · rw [gU_ne q2]; exact fi s hs hrk
              · dsimp only
                by_cases q2 : s = gsg B r c
                · subst q2
                  rw [gU_eq]
                  obtain ⟨o, hk, hg2⟩ := x_own2 hW bb fi hs hrk hne (by omega)
                  by_cases q3 : gX B (gsg B r c) % 64 < r * 4 + c
                  · have h1 := fi2 _ hs hrk hne q3
                    omega
                  · have e1 : gX B (gsg B r c) / 4 % 16 = r := by omega
                    have e2 : gX B (gsg B r c) % 4 = c := by omega
                    rw [e1, e2] at hk
                    exact hk
                · rw [gU_ne q2]
                  by_cases q3 : gX B s % 64 < r * 4 + c
                  · exact fi2 s hs hrk hne q3
                  · by_cases h2 : s = B 2
                    · rw [h2, bb.2.1, gs.2.1]
                    · obtain ⟨o, hk, hg2⟩ := x_own2 hW bb fi hs hrk hne h2
                      have e1 : gX B s / 4 % 16 = r := by omega
                      have e2 : gX B s % 4 = c := by omega
                      rw [e1, e2] at hg2
                      exact absurd hg2.symm q2
              · have h1 := fi _ h8 (by have := rk7 (K := gX B) h8; omega)
                omega
              · dsimp only at z; omega
            · intro hlt
              exact nx _ _ _ (fun _ => by omega)
        · intro hno
          rw [if_pos (by omega)]
          exact nx _ _ _ (fun o => absurd ⟨o.2.2.2.2.2.2.1, o.2.2.2.2.2.1⟩ hno)
    · intro h8
      exact nx _ _ _ (fun o => absurd o.2.2.2.1 (by omega))
theorem x_findContexts (hW : gW B) (hg0 : xgb B M0 2) (hK0 : kA 23 (gK B) M0) (hrow : ∀ r, r < B 0 → gon B r = true → kRow B (gK B) M0 r) (hQ : ∀ M', xKF M0 M' → kA 24 (gX B) M' → Q 0 M') : am_s am_P am_gg (d + 4) 36 [.inr (.inr 23)] M0 Q := by
  have hn := hW.1
  have hNK := NK_eq
  have h28 := hW.2.2.1
  have hp := gpos_ok hW
  obtain ⟨gs, gn⟩ := gX_ok hW
  refine (v_36_23 _ _ _).mpr (x_fill_24 ?_)
  have ert : am_fil M0 24 0 8 2147483647 2 4 = (B 2 : Int) := by rw [fil_nc _ _ _ _ _ (by decide)]; exact xg_rt hg0
  rw [ert]
  rw [if_pos (by omega)]
  refine p_for (S := (Int × (Nat → Nat)) × (Nat → Int → Int)) (X := fun i x => am_x am_P am_gg (d + 3) am_k36 0 Q 26 [some (.inr (.inr 23)), some (.inl (x.1.1)), some (.inl (i)), none] [] x.2 0 0) 9 (fun n x => xKF M0 x.2 ∧ kA 24 x.1.2 x.2 ∧ bX B x.1.2 ∧ (∀ s, s < 8 → rk (gX B) s < n → x.1.2 s = gX B s) ∧ (x.1.1 = 0 → ∀ r i, xOK B (gK B) x.1.2 r i → x.1.2 (gsg B r i) ≤ xky B (gK B) x.1.2 r i)) ?_ ?_ 0 ((1, gU (fun _ => NK) (B 2) 0), am_up (am_fil M0 24 0 8 2147483647) 24 (B 2 : Int) 0) (by omega) ?_
  · intro x ⟨f, a, b, fi, cl⟩
    refine (h_36_26_23 _ _ _ _ _).mpr ?_
    rw [if_pos (by omega)]
    exact hQ _ f (fun s hs => by rw [← fi s hs (by have := rk7 (K := gX B) hs; omega)]; exact a s hs)
  · intro n x hn9 ⟨f, a, b, fi, cl⟩ k
    obtain ⟨⟨fl, X⟩, M1⟩ := x
    dsimp only at f a b fi cl ⊢
    refine (h_36_26_23 _ _ _ _ _).mpr ?_
    rw [if_neg (by omega)]
    refine @p_if _ _ _ _ ?_ ?_
    · intro e
      refine hQ _ f (fun s hs => ?_)
      have h1 := b.2.2 s hs
      have h2 := (a s hs).2
      have h3 := gn s hs
      have h4 : X s = gX B s := by
        by_cases q : gX B s = NK
        · omega
        · have := bX_closed hW b (fun s hs => (a s hs).2) (cl e) NK s hs (by omega) (Nat.le_refl _)
          omega
      rw [← h4]; exact a s hs
    · intro e
      refine p_for (S := (Int × (Nat → Nat)) × (Nat → Int → Int)) (X := fun i x => am_x am_P am_gg (d + 3) am_k36 0 Q 40 [some (.inr (.inr 23)), some (.inl (x.1.1)), some (.inl ((n : Int))), some (.inl (i))] [] x.2 0 0) (B 0) (fun c x => xI B M0 x.2 n (c * 4) x.1.1 x.1.2) ?_ ?_ 0 ((0, X), M1) (by omega) ⟨f, a, b, fi, fun s hs _ _ z => absurd z (by omega), fun _ => rfl, fun _ r i z => absurd z (by omega)⟩
      · intro y hy
        obtain ⟨⟨fl, X⟩, M2⟩ := y
        obtain ⟨f, a, b, fi, fi2, f8, cl⟩ := hy
        dsimp only at f a b fi fi2 f8 cl ⊢
        have ok4 : ∀ r i, xOK B (gK B) X r i → r * 4 + i < B 0 * 4 := fun r i o => by
          have z1 := (hW.2.2.2.1 r o.1).2.2.1
          have z2 := o.2.2.1
          have z3 := o.1
          omega
        refine (h_36_40_23 _ _ _ _ _ _).mpr ?_
        rw [xg_n (xKF_g f hg0), w32_s (i := n) (by omega)]
        rw [if_neg (by omega)]
        refine am_x_le [some (.inr (.inr 23)), some (.inl (fl)), some (.inl (((n + 1 : Nat) : Int))), none] (am_lb_le _ _ ⟨rfl, rfl, rfl, trivial⟩) ?_
        refine k ((fl, X), M2) ⟨f, a, b, fun s hs hrk => ?_, fun z r i o => cl z r i (ok4 r i o) o⟩
        dsimp only
        by_cases q : gX B s = NK
        · have h1 := b.2.2 s hs
          have h2 := (a s hs).2
          omega
        · by_cases h2 : s = B 2
          · rw [h2, b.2.1, gs.2.1]
          · obtain ⟨o, hk, hg2⟩ := x_own2 hW b fi hs hrk q h2
            refine fi2 s hs hrk q ?_
            have := ok4 _ _ o
            omega
      · intro c y hc hy k2
        obtain ⟨⟨fl, X⟩, M2⟩ := y
        dsimp only at hy ⊢
        have hy0 := hy
        obtain ⟨f, a, b, fi, fi2, f8, cl⟩ := hy
        have hg := xKF_g f hg0
        have hsy := (hW.2.2.2.1 c hc).1
        have skip : (∀ i, ¬ xOK B (gK B) X c i) → am_x am_P am_gg (d + 3) am_k36 0 Q 40 [some (.inr (.inr 23)), some (.inl (fl)), some (.inl ((n : Int))), some (.inl (((c + 1 : Nat) : Int)))] [] M2 0 0 := by
          intro no
          refine k2 ((fl, X), M2) (xI_skip hW hy0 (by omega) (fun r' i' h1 h2 h4 o => ?_))
          have e1 : r' = c := by omega
          subst e1
          exact absurd o (no i')
        refine (h_36_40_23 _ _ _ _ _ _).mpr ?_
        rw [xg_n hg, w32_s (i := c) (by omega)]
        rw [if_pos (by omega)]
        refine x_isOn hg hW.on (by omega) ?_ ?_
        · intro ho
          rw [if_neg (by omega)]
          rw [if_pos (by omega)]
          rw [xg_sy hg hc]
          refine x_hasContext a hsy ?_ ?_
          · intro hX
            rw [if_neg (by omega)]
            refine x_improveContexts hW hg0 hK0 hc ho (hrow c hc ho) hy0 (fun M3 X3 b3 hb3 hI3 => ?_)
            rcases hb3 with rfl | rfl
            · rw [if_pos (by omega)]
              exact k2 ((fl, X3), M3) hI3
            · rw [if_neg (by omega)]
              exact k2 ((1, X3), M3) hI3
          · intro hX
            rw [if_pos (by omega)]
            exact skip (fun i o => o.2.2.2.2.2.1 hX)
        · intro ho
          rw [if_pos (by omega)]
          exact skip (fun i o => by rw [o.2.1] at ho; cases ho)
  · have key : ∀ s, gU (fun _ => NK) (B 2) 0 s ≠ NK → s = B 2 := by
      intro s q
      by_cases e : s = B 2
      · exact e
      · rw [gU_ne e] at q; exact absurd rfl q
    refine ⟨fun c hc => ?_, fun s hs => ?_, ⟨fun s _ q => ?_, (gU_eq : gU (fun _ => NK) (B 2) 0 (B 2) = 0), fun s hs => ?_⟩, fun s hs z => absurd z (Nat.not_lt_zero _), fun z => ?_⟩
    · show am_up (am_fil M0 24 0 8 2147483647) 24 _ _ c = _
      rw [up_nc _ _ _ _ hc, fil_nc _ _ _ _ _ hc]
    · show am_up (am_fil M0 24 0 8 2147483647) 24 (B 2 : Int) 0 24 (s : Int) = _ ∧ _
      rw [up_ci]
      by_cases e : s = B 2
      · subst e; rw [if_pos rfl]; dsimp only; rw [gU_eq]; exact ⟨rfl, by omega⟩
      · rw [if_neg (by omega), fil_at, if_pos (by omega)]; dsimp only; rw [gU_ne e]; exact ⟨rfl, Nat.le_refl _⟩
    · dsimp only at q ⊢
      rw [key s q, gU_eq]; have := hp.1 (B 2); omega
    · dsimp only
      by_cases e : s = B 2
      · rw [e, gU_eq, gs.2.1]; exact Nat.le_refl _
      · rw [gU_ne e]; exact gn s hs
    · dsimp only at z; omega
end S86
/-- symbols in order of their keys -/
def ord (K : Nat → Nat) (f : Int → Int) (n : Nat) (o : Nat → Nat) : Prop := n ≤ 8 ∧ (∀ i, i < n → f (i : Int) = (o i : Int) ∧ o i < 8 ∧ K (o i) ≠ NK) ∧ (∀ i j, i < j → j < n → K (o i) ≤ K (o j))
section S86b
variable {K : Nat → Nat} {M : (Nat → Int → Int)} {d : Nat} {Q : Int → (Nat → Int → Int) → Prop}
theorem x_order_23 (hK : kA 23 K M) (hQ : ∀ M' n o, (∀ c, c ≠ 25 → M' c = M c) → ord K (M' 25) n o → (∀ s, s < 8 → K s ≠ NK → ∃ i, i < n ∧ o i = s) → (∀ i j, i < j → j < n → o i ≠ o j) → Q (n : Int) M') : am_s am_P am_gg (d + 1) 38 [.inr (.inr 24), .inr (.inr 26)] M Q := by
  have hNK := NK_eq
  refine (v_38_24_26 _ _ _).mpr ?_
  refine p_for (S := (Nat × (Nat → Nat)) × (Nat → Int → Int)) (X := fun i x => am_x am_P am_gg d am_k38 1 Q 4 [some (.inr (.inr 24)), some (.inr (.inr 26)), some (.inl ((x.1.1 : Int))), some (.inl (i)), none] [] x.2 0 0) 8 (fun b x => (∀ c, c ≠ 25 → x.2 c = M c) ∧ ord K (x.2 25) x.1.1 x.1.2 ∧ x.1.1 ≤ b ∧ (∀ s, s < b → K s ≠ NK → ∃ i, i < x.1.1 ∧ x.1.2 i = s) ∧ (∀ i, i < x.1.1 → x.1.2 i < b) ∧ ∀ i j, i < j → j < x.1.1 → x.1.2 i ≠ x.1.2 j) ?_ ?_ 0 ((0, fun _ => 0), M) (by omega) ⟨fun _ _ => rfl, ⟨by dsimp only; omega, fun i hi => absurd hi (Nat.not_lt_zero i), fun i j _ hj => absurd hj (Nat.not_lt_zero j)⟩, by dsimp only; omega, fun s hs => absurd hs (Nat.not_lt_zero s), fun i hi => absurd hi (Nat.not_lt_zero i), fun i j _ hj => absurd hj (Nat.not_lt_zero j)⟩
  · intro x ⟨f, od, le, al, lb, ij⟩
    refine (h_38_4_24_26 _ _ _ _ _).mpr ?_
    rw [if_neg (by omega)]
    exact hQ _ _ _ f od al ij
  · intro b x hb ⟨f, od, le, al, lb, ij⟩ k
    obtain ⟨⟨n, o⟩, M1⟩ := x
    dsimp only at f od le al lb ij ⊢
    have ka : kA 23 K M1 := fun s hs => by rw [f 23 (by decide)]; exact hK s hs
    obtain ⟨kb, kn⟩ := ka b hb
    refine (h_38_4_24_26 _ _ _ _ _).mpr ?_
    rw [kb, w32_s (i := b) (by omega)]
    rw [if_pos (by omega)]
    rw [if_pos (by omega)]
    refine @p_if _ _ _ _ ?_ ?_
    · intro e
      refine k ((n, o), M1) ⟨f, od, by dsimp only; omega, fun s hs hne => ?_, fun i hi => by have := lb i hi; dsimp only; omega, ij⟩
      by_cases q : s = b
      · subst q; omega
      · exact al s (by omega) hne
    · intro e
      obtain ⟨od1, od2, od3⟩ := od
      -- the place is looked for from behind
      refine p_whi (S := Nat × (Nat → Int → Int)) (X := fun x => am_x am_P am_gg d am_k38 1 Q 21 [some (.inr (.inr 24)), some (.inr (.inr 26)), some (.inl ((n : Int))), some (.inl ((b : Int))), some (.inl ((x.1 : Int)))] [] x.2 0 0) (fun m x => m = x.1 ∧ x.1 ≤ n ∧ (∀ c, c ≠ 25 → x.2 c = M c) ∧ (∀ i, i < x.1 → x.2 25 (i : Int) = (o i : Int)) ∧ (∀ i, x.1 ≤ i → i < n → x.2 25 ((i + 1 : Nat) : Int) = (o i : Int) ∧ K b < K (o i))) ?_ n (n, M1) ⟨rfl, Nat.le_refl _, f, fun i hi => (od2 i hi).1, fun i a b => absurd b (by dsimp only at a; omega)⟩
      intro m x ⟨hm, hxn, f2, lo, hi⟩ k2
      obtain ⟨t, M2⟩ := x
      dsimp only at hm hxn f2 lo hi ⊢
      have ka2 : kA 23 K M2 := fun s hs => by rw [f2 23 (by decide)]; exact hK s hs
      have put : (∀ i, i < t → K (o i) ≤ K b) → am_x am_P am_gg d am_k38 1 Q 4 [some (.inr (.inr 24)), some (.inr (.inr 26)), some (.inl (((n + 1 : Nat) : Int))), some (.inl (((b + 1 : Nat) : Int))), some (.inl ((t : Int)))] [] (am_up M2 25 (t : Int) (b : Int)) 0 0 := by
        intro hlo
        refine am_x_le [some (.inr (.inr 24)), some (.inr (.inr 26)), some (.inl (((n + 1 : Nat) : Int))), some (.inl (((b + 1 : Nat) : Int))), none] (am_lb_le _ _ ⟨rfl, rfl, rfl, rfl, trivial⟩) ?_
        refine k ((n + 1, fun i => if i < t then o i else if i = t then b else o (i - 1)), am_up M2 25 (t : Int) (b : Int)) ⟨fun c hc => ?_, ⟨by dsimp only; omega, fun i hi2 => ?_, fun i j hij hj => ?_⟩, by dsimp only; omega, fun s hs hne => ?_, fun i hi2 => ?_, fun i j hij hj => ?_⟩
        · show am_up M2 25 _ _ c = _
          rw [up_nc _ _ _ _ hc]; exact f2 c hc
        · dsimp only at hi2 ⊢
          rw [up_ci]
          by_cases q1 : i < t
          · rw [if_neg (by omega), if_pos q1]
            obtain ⟨w1, w2, w3⟩ := od2 i (by omega)
            exact ⟨lo i q1, w2, w3⟩
          · by_cases q2 : i = t
            · rw [if_pos (by omega), if_neg q1, if_pos q2]; exact ⟨rfl, hb, by omega⟩
            · rw [if_neg (by omega), if_neg q1, if_neg q2]
              obtain ⟨w1, w2, w3⟩ := od2 (i - 1) (by omega)
              have := (hi (i - 1) (by omega) (by omega)).1
              rw [show i - 1 + 1 = i by omega] at this
              exact ⟨this, w2, w3⟩
        · dsimp only at hj ⊢
          by_cases q1 : j < t
          · rw [if_pos (by omega), if_pos q1]; exact od3 i j hij (by omega)
          · by_cases q2 : j = t
            · rw [if_pos (by omega), if_neg q1, if_pos q2]; exact hlo i (by omega)
            · rw [if_neg q1, if_neg q2]
              by_cases q3 : i < t
              · rw [if_pos q3]
                exact od3 i (j - 1) (by omega) (by omega)
              · by_cases q4 : i = t
                · rw [if_neg q3, if_pos q4]; exact Nat.le_of_lt (hi (j - 1) (by omega) (by omega)).2
                · rw [if_neg q3, if_neg q4]; exact od3 (i - 1) (j - 1) (by omega) (by omega)
        · dsimp only
          by_cases q : s = b
          · exact ⟨t, by omega, by rw [if_neg (Nat.lt_irrefl _), if_pos rfl, q]⟩
          · obtain ⟨i, hi2, hio⟩ := al s (by omega) hne
            by_cases q1 : i < t
            · exact ⟨i, by omega, by rw [if_pos q1]; exact hio⟩
            · exact ⟨i + 1, by omega, by rw [if_neg (by omega), if_neg (by omega)]; exact hio⟩
        · dsimp only at hi2 ⊢
          by_cases q1 : i < t
          · rw [if_pos q1]; have := lb i (by omega); omega
          · by_cases q2 : i = t
            · rw [if_neg q1, if_pos q2]; omega
            · rw [if_neg q1, if_neg q2]; have := lb (i - 1) (by omega); omega
        · dsimp only at hj ⊢
          by_cases q1 : j < t
          · rw [if_pos (by omega), if_pos q1]; exact ij i j hij (by omega)
          · by_cases q2 : j = t
            · rw [if_pos (by omega), if_neg q1, if_pos q2]; have := lb i (by omega); omega
            · rw [if_neg q1, if_neg q2]
              by_cases q3 : i < t
              · rw [if_pos q3]; exact ij i (j - 1) (by omega) (by omega)
              · by_cases q4 : i = t
                · rw [if_neg q3, if_pos q4]; have := lb (j - 1) (by omega); omega
                · rw [if_neg q3, if_neg q4]; exact ij (i - 1) (j - 1) (by omega) (by omega)
      refine (h_38_21_24_26 _ _ _ _ _ _).mpr ?_
      rw [w32_s (i := n) (by omega), w32_s (i := b) (by omega)]
      refine @p_if _ _ _ _ ?_ ?_
      · intro ht
        have ct : w32 ((t : Int) - 1) = ((t - 1 : Nat) : Int) := by rw [w32_i (by omega) (by omega)]; omega
        obtain ⟨w1, w2, w3⟩ := od2 (t - 1) (by omega)
        rw [ct, lo (t - 1) (by omega), (ka2 b hb).1, (ka2 _ w2).1]
        rw [if_pos (by omega)]
        rw [if_pos (by omega)]
        rw [if_pos (by omega)]
        refine @p_if _ _ _ _ ?_ ?_
        · intro q
          rw [if_pos (by omega)]
          rw [if_pos (by omega)]
          rw [show w32 ((t : Int) + -1) = ((t - 1 : Nat) : Int) by rw [w32_i (by omega) (by omega)]; omega]
          refine k2 (t - 1) (t - 1, am_up M2 25 (t : Int) (o (t - 1) : Int)) (by omega) ⟨rfl, by dsimp only; omega, fun c hc => ?_, fun i hi2 => ?_, fun i h1 h2 => ?_⟩
          · show am_up M2 25 _ _ c = _
            rw [up_nc _ _ _ _ hc]; exact f2 c hc
          · dsimp only at hi2 ⊢
            rw [up_ci, if_neg (by omega)]; exact lo i (by omega)
          · dsimp only at h1 ⊢
            rw [up_ci]
            by_cases q2 : i + 1 = t
            · rw [if_pos (by omega), show t - 1 = i by omega]
              rw [show t - 1 = i by omega] at q
              exact ⟨rfl, by omega⟩
            · rw [if_neg (by omega)]; exact hi i (by omega) h2
        · intro q
          rw [if_pos (by omega)]
          refine put (fun i hi2 => ?_)
          by_cases e1 : i = t - 1
          · subst e1; omega
          · have := od3 i (t - 1) (by omega) (by omega); omega
      · intro ht
        rw [if_pos (by omega)]
        exact put (fun i hi2 => by omega)
theorem x_order_24 (hK : kA 24 K M) (hQ : ∀ M' n o, (∀ c, c ≠ 26 → M' c = M c) → ord K (M' 26) n o → (∀ s, s < 8 → K s ≠ NK → ∃ i, i < n ∧ o i = s) → (∀ i j, i < j → j < n → o i ≠ o j) → Q (n : Int) M') : am_s am_P am_gg (d + 1) 38 [.inr (.inr 25), .inr (.inr 27)] M Q := by
  have hNK := NK_eq
  refine (v_38_25_27 _ _ _).mpr ?_
  refine p_for (S := (Nat × (Nat → Nat)) × (Nat → Int → Int)) (X := fun i x => am_x am_P am_gg d am_k38 1 Q 4 [some (.inr (.inr 25)), some (.inr (.inr 27)), some (.inl ((x.1.1 : Int))), some (.inl (i)), none] [] x.2 0 0) 8 (fun b x => (∀ c, c ≠ 26 → x.2 c = M c) ∧ ord K (x.2 26) x.1.1 x.1.2 ∧ x.1.1 ≤ b ∧ (∀ s, s < b → K s ≠ NK → ∃ i, i < x.1.1 ∧ x.1.2 i = s) ∧ (∀ i, i < x.1.1 → x.1.2 i < b) ∧ ∀ i j, i < j → j < x.1.1 → x.1.2 i ≠ x.1.2 j) ?_ ?_ 0 ((0, fun _ => 0), M) (by omega) ⟨fun _ _ => rfl, ⟨by dsimp only; omega, fun i hi => absurd hi (Nat.not_lt_zero i), fun i j _ hj => absurd hj (Nat.not_lt_zero j)⟩, by dsimp only; omega, fun s hs => absurd hs (Nat.not_lt_zero s), fun i hi => absurd hi (Nat.not_lt_zero i), fun i j _ hj => absurd hj (Nat.not_lt_zero j)⟩
  · intro x ⟨f, od, le, al, lb, ij⟩
    refine (h_38_4_25_27 _ _ _ _ _).mpr ?_
    rw [if_neg (by omega)]
    exact hQ _ _ _ f od al ij
  · intro b x hb ⟨f, od, le, al, lb, ij⟩ k
    obtain ⟨⟨n, o⟩, M1⟩ := x
    dsimp only at f od le al lb ij ⊢
    have ka : kA 24 K M1 := fun s hs => by rw [f 24 (by decide)]; exact hK s hs
    obtain ⟨kb, kn⟩ := ka b hb
    refine (h_38_4_25_27 _ _ _ _ _).mpr ?_
    rw [kb, w32_s (i := b) (by omega)]
    rw [if_pos (by omega)]
    rw [if_pos (by omega)]
    refine @p_if _ _ _ _ ?_ ?_
    · intro e
      refine k ((n, o), M1) ⟨f, od, by dsimp only; omega, fun s hs hne => ?_, fun i hi => by have := lb i hi; dsimp only; omega, ij⟩
      by_cases q : s = b
      · subst q; omega
      · exact al s (by omega) hne
    · intro e
      obtain ⟨od1, od2, od3⟩ := od
      -- the place is looked for from behind
      refine p_whi (S := Nat × (Nat → Int → Int)) (X := fun x => am_x am_P am_gg d am_k38 1 Q 21 [some (.inr (.inr 25)), some (.inr (.inr 27)), some (.inl ((n : Int))), some (.inl ((b : Int))), some (.inl ((x.1 : Int)))] [] x.2 0 0) (fun m x => m = x.1 ∧ x.1 ≤ n ∧ (∀ c, c ≠ 26 → x.2 c = M c) ∧ (∀ i, i < x.1 → x.2 26 (i : Int) = (o i : Int)) ∧ (∀ i, x.1 ≤ i → i < n → x.2 26 ((i + 1 : Nat) : Int) = (o i : Int) ∧ K b < K (o i))) ?_ n (n, M1) ⟨rfl, Nat.le_refl _, f, fun i hi => (od2 i hi).1, fun i a b => absurd b (by dsimp only at a; omega)⟩
      intro m x ⟨hm, hxn, f2, lo, hi⟩ k2
      obtain ⟨t, M2⟩ := x
      dsimp only at hm hxn f2 lo hi ⊢
      have ka2 : kA 24 K M2 := fun s hs => by rw [f2 24 (by decide)]; exact hK s hs
      have put : (∀ i, i < t → K (o i) ≤ K b) → am_x am_P am_gg d am_k38 1 Q 4 [some (.inr (.inr 25)), some (.inr (.inr 27)), some (.inl (((n + 1 : Nat) : Int))), some (.inl (((b + 1 : Nat) : Int))), some (.inl ((t : Int)))] [] (am_up M2 26 (t : Int) (b : Int)) 0 0 := by
        intro hlo
        refine am_x_le [some (.inr (.inr 25)), some (.inr (.inr 27)), some (.inl (((n + 1 : Nat) : Int))), some (.inl (((b + 1 : Nat) : Int))), none] (am_lb_le _ _ ⟨rfl, rfl, rfl, rfl, trivial⟩) ?_
        refine k ((n + 1, fun i => if i < t then o i else if i = t then b else o (i - 1)), am_up M2 26 (t : Int) (b : Int)) ⟨fun c hc => ?_, ⟨by dsimp only; omega, fun i hi2 => ?_, fun i j hij hj => ?_⟩, by dsimp only; omega, fun s hs hne => ?_, fun i hi2 => ?_, fun i j hij hj => ?_⟩
        · show am_up M2 26 _ _ c = _
          rw [up_nc _ _ _ _ hc]; exact f2 c hc
        · dsimp only at hi2 ⊢
          rw [up_ci]
          by_cases q1 : i < t
          · rw [if_neg (by omega), if_pos q1]
            obtain ⟨w1, w2, w3⟩ := od2 i (by omega)
            exact ⟨lo i q1, w2, w3⟩
          · by_cases q2 : i = t
            · rw [if_pos (by omega), if_neg q1, if_pos q2]; exact ⟨rfl, hb, by omega⟩
            · rw [if_neg (by omega), if_neg q1, if_neg q2]
              obtain ⟨w1, w2, w3⟩ := od2 (i - 1) (by omega)
              have := (hi (i - 1) (by omega) (by omega)).1
              rw [show i - 1 + 1 = i by omega] at this
              exact ⟨this, w2, w3⟩
        · dsimp only at hj ⊢
          by_cases q1 : j < t
          · rw [if_pos (by omega), if_pos q1]; exact od3 i j hij (by omega)
          · by_cases q2 : j = t
            · rw [if_pos (by omega), if_neg q1, if_pos q2]; exact hlo i (by omega)
            · rw [if_neg q1, if_neg q2]
              by_cases q3 : i < t
              · rw [if_pos q3]
                exact od3 i (j - 1) (by omega) (by omega)
              · by_cases q4 : i = t
                · rw [if_neg q3, if_pos q4]; exact Nat.le_of_lt (hi (j - 1) (by omega) (by omega)).2
                · rw [if_neg q3, if_neg q4]; exact od3 (i - 1) (j - 1) (by omega) (by omega)
        · dsimp only
          by_cases q : s = b
          · exact ⟨t, by omega, by rw [if_neg (Nat.lt_irrefl _), if_pos rfl, q]⟩
          · obtain ⟨i, hi2, hio⟩ := al s (by omega) hne
            by_cases q1 : i < t
            · exact ⟨i, by omega, by rw [if_pos q1]; exact hio⟩
            · exact ⟨i + 1, by omega, by rw [if_neg (by omega), if_neg (by omega)]; exact hio⟩
        · dsimp only at hi2 ⊢
          by_cases q1 : i < t
          · rw [if_pos q1]; have := lb i (by omega); omega
          · by_cases q2 : i = t
            · rw [if_neg q1, if_pos q2]; omega
            · rw [if_neg q1, if_neg q2]; have := lb (i - 1) (by omega); omega
        · dsimp only at hj ⊢
          by_cases q1 : j < t
          · rw [if_pos (by omega), if_pos q1]; exact ij i j hij (by omega)
          · by_cases q2 : j = t
            · rw [if_pos (by omega), if_neg q1, if_pos q2]; have := lb i (by omega); omega
            · rw [if_neg q1, if_neg q2]
              by_cases q3 : i < t
              · rw [if_pos q3]; exact ij i (j - 1) (by omega) (by omega)
              · by_cases q4 : i = t
                · rw [if_neg q3, if_pos q4]; have := lb (j - 1) (by omega); omega
                · rw [if_neg q3, if_neg q4]; exact ij (i - 1) (j - 1) (by omega) (by omega)
      refine (h_38_21_25_27 _ _ _ _ _ _).mpr ?_
      rw [w32_s (i := n) (by omega), w32_s (i := b) (by omega)]
      refine @p_if _ _ _ _ ?_ ?_
      · intro ht
        have ct : w32 ((t : Int) - 1) = ((t - 1 : Nat) : Int) := by rw [w32_i (by omega) (by omega)]; omega
        obtain ⟨w1, w2, w3⟩ := od2 (t - 1) (by omega)
        rw [ct, lo (t - 1) (by omega), (ka2 b hb).1, (ka2 _ w2).1]
        rw [if_pos (by omega)]
        rw [if_pos (by omega)]
        rw [if_pos (by omega)]
        refine @p_if _ _ _ _ ?_ ?_
        · intro q
          rw [if_pos (by omega)]
          rw [if_pos (by omega)]
          rw [show w32 ((t : Int) + -1) = ((t - 1 : Nat) : Int) by rw [w32_i (by omega) (by omega)]; omega]
          refine k2 (t - 1) (t - 1, am_up M2 26 (t : Int) (o (t - 1) : Int)) (by omega) ⟨rfl, by dsimp only; omega, fun c hc => ?_, fun i hi2 => ?_, fun i h1 h2 => ?_⟩
          · show am_up M2 26 _ _ c = _
            rw [up_nc _ _ _ _ hc]; exact f2 c hc
          · dsimp only at hi2 ⊢
            rw [up_ci, if_neg (by omega)]; exact lo i (by omega)
          · dsimp only at h1 ⊢
            rw [up_ci]
            by_cases q2 : i + 1 = t
            · rw [if_pos (by omega), show t - 1 = i by omega]
              rw [show t - 1 = i by omega] at q
              exact ⟨rfl, by omega⟩
            · rw [if_neg (by omega)]; exact hi i (by omega) h2
        · intro q
          rw [if_pos (by omega)]
          refine put (fun i hi2 => ?_)
          by_cases e1 : i = t - 1
          · subst e1; omega
          · have := od3 i (t - 1) (by omega) (by omega); omega
      · intro ht
        rw [if_pos (by omega)]
        exact put (fun i hi2 => by omega)
end S86b
