/-! the class: USED, FIRST, LAST, BESIDE -/
def eC (B : Nat → Nat) (e : Nat → Nat) (f : Int → Int) (c : Nat) : Prop := ∀ r, r < c → gSnd B r → ∀ l, (gsg B r (e r) = 16 + l ∨ gsg B r (e r) < 8 ∧ bp (f (gsg B r (e r) : Int)) l) → bp (f (gsy B r : Int)) l
/-- what the class's sets are -/
def sOK (B : Nat → Nat) (M : (Nat → Int → Int)) : Prop := bs (M 16 2) (gGood B) ∧ bs (M 16 3) (gRch B) ∧ bs (M 16 4) (fun r => r < B 0 ∧ gSnd B r) ∧ bs (M 16 5) (gUsd B) ∧ bs (M 16 6) (gUL B) ∧ (∀ s : Nat, s < 8 → bs (M 18 (s : Int)) (gE B (e0 B) s)) ∧ (∀ s : Nat, s < 8 → bs (M 19 (s : Int)) (gE B (e1 B) s)) ∧ (∀ l : Nat, l < 16 → bs (M 20 (l : Int)) (gBes B l)) ∧ ∀ l : Nat, l < 16 → bs (M 21 (l : Int)) (fun l' => gBes B l' l)
section S82
variable {B : Nat → Nat} {M M0 : (Nat → Int → Int)} {d : Nat} {Q : Int → (Nat → Int → Int) → Prop}
theorem x_findUsed (hW : gW B) (hg0 : xgb B M0 2) (hs0 : bs (M0 16 4) (fun r => r < B 0 ∧ gSnd B r)) (hr0 : bs (M0 16 3) (gRch B)) (hQ : ∀ M', frC 16 5 6 M0 M' → bs (M' 16 5) (gUsd B) → bs (M' 16 6) (gUL B) → Q 0 M') : am_s am_P am_gg (d + 3) 124 [.inr (.inr 17)] M0 Q := by
  have hn := hW.1
  refine (v_124_17 _ _ _).mpr ?_
  refine p_for (S := (Nat → Int → Int)) (X := fun i M => am_x am_P am_gg (d + 2) am_k124 0 Q 12 [some (.inr (.inr 17)), some (.inl (i)), none, none] [] M 0 0) (B 0) (fun b M => frC 16 5 6 M0 M ∧ bs (M 16 5) (fun r => r < b ∧ gUsd B r) ∧ bs (M 16 6) (fun l => ∃ r i, r < b ∧ gUsd B r ∧ i < gsz B r ∧ gsg B r i = 16 + l)) ?_ ?_ 0 _ (by omega) ?_
  · intro M3 ⟨f, u, ul⟩
    refine (h_124_12_17 _ _ _ _).mpr ?_
    rw [xg_n (fr16_g f hg0)]
    rw [if_neg (by omega)]
    refine hQ M3 f (bs_cong u (fun j => ⟨fun q => q.2, fun q => ⟨q.1, q⟩⟩)) (bs_cong ul (fun l => ⟨fun ⟨r, i, _, a, b, c⟩ => ⟨r, i, a, b, c⟩, fun ⟨r, i, a, b, c⟩ => ⟨r, i, a.1, a, b, c⟩⟩))
  · intro b M3 hb ⟨f, u, ul⟩ k
    have hg := fr16_g f hg0
    have ss : bs (M3 16 4) (fun r => r < B 0 ∧ gSnd B r) := by rw [f.2 4 (by omega)]; exact hs0
    have rr : bs (M3 16 3) (gRch B) := by rw [f.2 3 (by omega)]; exact hr0
    obtain ⟨hsy, hz, hz4, -, hs⟩ := hW.2.2.2.1 b hb
    refine (h_124_12_17 _ _ _ _).mpr ?_
    rw [xg_n hg]
    rw [if_pos (by omega)]
    refine x_comesTo hW hg hb ss rr ?_ ?_
    · intro hS hR
      rw [if_neg (by omega)]
      have hU : gUsd B b := ⟨hb, hS, hR⟩
      refine p_for (S := (Nat → Int → Int)) (X := fun i M => am_x am_P am_gg (d + 2) am_k124 0 Q 45 [some (.inr (.inr 17)), some (.inl ((b : Int))), some (.inl (i)), none] [] M 0 0) (gsz B b) (fun c M => frC 16 5 6 M0 M ∧ bs (M 16 5) (fun r => r < b + 1 ∧ gUsd B r) ∧ bs (M 16 6) (fun l => (∃ r i, r < b ∧ gUsd B r ∧ i < gsz B r ∧ gsg B r i = 16 + l) ∨ ∃ i, i < c ∧ gsg B b i = 16 + l)) ?_ ?_ 0 _ (by omega) ?_
      · intro M4 ⟨f, u, ul⟩
        refine (h_124_45_17 _ _ _ _ _).mpr ?_
        rw [xg_sz (fr16_g f hg0) hb]
        rw [if_pos (by omega)]
        rw [if_neg (by omega)]
        rw [w32_s (i := b) (by omega)]
        refine am_x_le [some (.inr (.inr 17)), some (.inl (((b + 1 : Nat) : Int))), none, none] (am_lb_le _ _ ⟨rfl, rfl, trivial⟩) ?_
        refine k M4 ⟨f, u, bs_cong ul (fun l => ⟨?_, ?_⟩)⟩
        · rintro (⟨r, i, h, q⟩ | ⟨i, h, q⟩)
          · exact ⟨r, i, by omega, q⟩
          · exact ⟨b, i, by omega, hU, h, q⟩
        · rintro ⟨r, i, h, q1, q2, q3⟩
          by_cases e : r = b
          · subst e; exact Or.inr ⟨i, q2, q3⟩
          · exact Or.inl ⟨r, i, by omega, q1, q2, q3⟩
      · intro c M4 hc ⟨f, u, ul⟩ k2
        have hg := fr16_g f hg0
        have hsc := hs c hc
        refine (h_124_45_17 _ _ _ _ _).mpr ?_
        rw [xg_sz hg hb]
        rw [if_pos (by omega)]
        rw [if_pos (by omega)]
        refine x_signAt hg hW hb hc ?_
        rw [w32_s (i := c) (by omega)]
        refine @p_if _ _ _ _ ?_ ?_
        · intro h8
          rw [bs_or0 ul]
          refine am_x_le [some (.inr (.inr 17)), some (.inl ((b : Int))), some (.inl (((c + 1 : Nat) : Int))), none] (am_lb_le _ _ ⟨rfl, rfl, rfl, trivial⟩) ?_
          refine k2 _ ⟨frC_up f (by omega), ?_, ?_⟩
          · rw [up_ni _ _ _ _ (by decide)]; exact u
          · rw [up_eq]; refine bs_cong ul (fun l => or_congr Iff.rfl ⟨fun ⟨i, h, q⟩ => ⟨i, by omega, q⟩, fun ⟨i, h, q⟩ => ⟨i, ?_, q⟩⟩)
            by_cases e : i = c
            · subst e; omega
            · omega
        · intro h8
          rw [show w32 ((gsg B b c : Int) - 16) = ((gsg B b c - 16 : Nat) : Int) by rw [w32_i (by omega) (by omega)]; omega]
          refine am_x_le [some (.inr (.inr 17)), some (.inl ((b : Int))), some (.inl (((c + 1 : Nat) : Int))), none] (am_lb_le _ _ ⟨rfl, rfl, rfl, trivial⟩) ?_
          refine k2 _ ⟨frC_up f (by omega), ?_, ?_⟩
          · rw [up_ni _ _ _ _ (by decide)]; exact u
          · rw [up_eq]; refine bs_cong (bs_add ul (by omega)) (fun l => ⟨?_, ?_⟩)
            · rintro ((q | ⟨i, h, q⟩) | q)
              · exact Or.inl q
              · exact Or.inr ⟨i, by omega, q⟩
              · exact Or.inr ⟨c, by omega, by omega⟩
            · rintro (q | ⟨i, h, q⟩)
              · exact Or.inl (Or.inl q)
              · by_cases e : i = c
                · subst e; exact Or.inr (by omega)
                · exact Or.inl (Or.inr ⟨i, by omega, q⟩)
      · refine ⟨frC_up f (by omega), ?_, ?_⟩
        · rw [up_eq]; refine bs_cong (bs_add u (by omega)) (fun j => ⟨?_, ?_⟩)
          · rintro (q | q)
            · exact ⟨by omega, q.2⟩
            · subst q; exact ⟨by omega, hU⟩
          · intro q
            by_cases e : j = b
            · exact Or.inr e
            · exact Or.inl ⟨by omega, q.2⟩
        · rw [up_ni _ _ _ _ (by decide)]; exact bs_cong ul (fun l => ⟨Or.inl, fun q => q.elim id (fun ⟨i, h, _⟩ => absurd h (Nat.not_lt_zero i))⟩)
    · intro hno
      rw [if_pos (by omega)]
      have nu : ¬ gUsd B b := fun z => hno ⟨z.2.1, z.2.2⟩
      rw [w32_s (by omega)]
      refine k M3 ⟨f, bs_cong u (fun j => ⟨fun q => ⟨by omega, q.2⟩, fun q => ⟨?_, q.2⟩⟩), bs_cong ul (fun l => ⟨fun ⟨r, i, h, q⟩ => ⟨r, i, by omega, q⟩, fun ⟨r, i, h, q⟩ => ⟨r, i, ?_, q⟩⟩)⟩
      · by_cases e : j = b
        · subst e; exact absurd q.2 nu
        · omega
      · by_cases e : r = b
        · subst e; exact absurd q.1 nu
        · omega
  · refine ⟨frC_up (frC_up frC_rf (by omega)) (by omega), ?_, ?_⟩
    · rw [up_ni _ _ _ _ (by decide), up_eq]; exact bs_cong bs_0 (fun j => ⟨fun q => q.elim, fun q => absurd q.1 (Nat.not_lt_zero j)⟩)
    · rw [up_eq]; exact bs_cong bs_0 (fun j => ⟨fun q => q.elim, fun ⟨r, i, h, _⟩ => absurd h (Nat.not_lt_zero r)⟩)
theorem x_firstOf {g : Nat} (hg : g < 8 ∨ (16 ≤ g ∧ g < 32)) (hQ : Q (sv (M 18) g) M) : am_s am_P am_gg (d + 1) 125 [.inr (.inr 17), .inl (g : Int)] M Q := by
  refine (v_125_17 _ _ _ _).mpr ?_
  unfold sv at hQ
  by_cases q : g < 8
  · rw [if_pos (by omega)]
    rw [if_pos (by omega)]
    rw [if_pos q] at hQ; exact hQ
  · rw [if_neg (by omega)]
    rw [if_neg q] at hQ
    rw [show w32 ((g : Int) - 16) = ((g - 16 : Nat) : Int) by rw [w32_i (by omega) (by omega)]; omega]
    exact hQ
theorem x_lastOf {g : Nat} (hg : g < 8 ∨ (16 ≤ g ∧ g < 32)) (hQ : Q (sv (M 19) g) M) : am_s am_P am_gg (d + 1) 126 [.inr (.inr 17), .inl (g : Int)] M Q := by
  refine (v_126_17 _ _ _ _).mpr ?_
  unfold sv at hQ
  by_cases q : g < 8
  · rw [if_pos (by omega)]
    rw [if_pos (by omega)]
    rw [if_pos q] at hQ; exact hQ
  · rw [if_neg (by omega)]
    rw [if_neg q] at hQ
    rw [show w32 ((g : Int) - 16) = ((g - 16 : Nat) : Int) by rw [w32_i (by omega) (by omega)]; omega]
    exact hQ
theorem x_growEnds (hW : gW B) (hg : xgb B M 2) {r : Nat} (hr : r < B 0) (h1 : ∀ fl : Int, (fl = 0 ∨ fl = 1) → (fl = 0 → i_or (M 18 (gsy B r : Int)) (sv (M 18) (gsg B r 0)) = M 18 (gsy B r : Int) ∧ i_or (M 19 (gsy B r : Int)) (sv (M 19) (gsg B r (gsz B r - 1))) = M 19 (gsy B r : Int)) → Q fl (am_up (am_up M 18 (gsy B r : Int) (i_or (M 18 (gsy B r : Int)) (sv (M 18) (gsg B r 0)))) 19 (gsy B r : Int) (i_or (M 19 (gsy B r : Int)) (sv (M 19) (gsg B r (gsz B r - 1)))))) : am_s am_P am_gg (d + 2) 128 [.inr (.inr 17), .inl (r : Int)] M Q := by
  have hn := hW.1
  obtain ⟨hsy, hz, hz4, -, hs⟩ := hW.2.2.2.1 r hr
  refine (v_128_17 _ _ _ _).mpr ?_
  rw [xg_sy hg hr]
  rw [if_pos (by omega)]
  rw [if_pos (by omega)]
  refine x_signAt (i := 0) hg hW hr (by omega) (x_firstOf (hs 0 (by omega)) ?_)
  rw [if_pos (by omega)]
  rw [if_pos (by omega)]
  rw [xg_sz hg hr, show w32 ((gsz B r : Int) - 1) = ((gsz B r - 1 : Nat) : Int) by rw [w32_i (by omega) (by omega)]; omega]
  refine x_signAt hg hW hr (by omega) (x_lastOf (hs _ (by omega)) ?_)
  rw [if_pos (by omega)]
  refine @p_if _ _ _ _ ?_ ?_
  · intro a
    rw [if_pos (by omega)]
    refine @p_if _ _ _ _ ?_ ?_
    · intro b
      rw [if_pos (by omega)]
      rw [if_pos (by omega)]
      exact h1 0 (by omega) (fun _ => ⟨a, b⟩)
    · intro b
      rw [if_pos (by omega)]
      rw [if_pos (by omega)]
      exact h1 1 (by omega) (fun z => by omega)
  · intro a
    rw [if_pos (by omega)]
    rw [if_pos (by omega)]
    exact h1 1 (by omega) (fun z => by omega)
theorem eC_grow {e : Nat → Nat} {f f' : Int → Int} {c : Nat} (hx : ∀ s : Nat, s < 8 → bs (f (s : Int)) (bp (f (s : Int)))) (hW : gW B) (he : ∀ r, r < B 0 → e r < gsz B r) (hc : c < B 0) (h : eC B e f c) (hq : i_or (f (gsy B c : Int)) (sv f (gsg B c (e c))) = f (gsy B c : Int)) (hf : ∀ j : Int, f' j = if j = (gsy B c : Int) then i_or (f (gsy B c : Int)) (sv f (gsg B c (e c))) else f j) : eC B e f' (c + 1) := by
  have ef : f' = f := by
    funext j; rw [hf]
    by_cases q : j = (gsy B c : Int)
    · rw [if_pos q, hq, q]
    · rw [if_neg q]
  rw [ef]
  intro r hr hS l ql
  by_cases q : r = c
  · subst q
    obtain ⟨hsy, -, -, -, hs⟩ := hW.2.2.2.1 r hc
    have hor := bs_or (hx _ hsy) (sv_bs (f := f) (hs _ (he r hc)) (p := bp (f (gsg B r (e r) : Int))) (fun z => hx _ z))
    rw [← hq]
    exact (bp_iff hor l).mpr (Or.inr ql)
  · exact h r (by omega) hS l ql
theorem eC_skip {e : Nat → Nat} {f : Int → Int} {c : Nat} (h : eC B e f c) (hS : ¬ gSnd B c) : eC B e f (c + 1) := fun r hr hrS l q => by
  by_cases z : r = c
  · subst z; exact absurd hrS hS
  · exact h r (by omega) hrS l q
theorem eC_fin {e : Nat → Nat} {f : Int → Int} {n : Nat} (hS : eS B e f n) (h : eC B e f (B 0)) {s : Nat} (hs : s < 8) : bs (f (s : Int)) (gE B e s) := by
  obtain ⟨h1, h2, h3⟩ := hS s hs
  refine bs_cong h1 (fun l => ⟨h2 l, fun ⟨m, q⟩ => ?_⟩)
  exact gE_least (P := fun s => bp (f (s : Int)) l) (fun r hr hrS z => h r hr hrS l z) q
def eF2 (M M' : (Nat → Int → Int)) : Prop := ∀ c, c ≠ 18 → c ≠ 19 → M' c = M c
theorem x_findEnds (hW : gW B) (hg0 : xgb B M0 2) (hs0 : bs (M0 16 4) (fun r => r < B 0 ∧ gSnd B r)) (hQ : ∀ M', eF2 M0 M' → (∀ s : Nat, s < 8 → bs (M' 18 (s : Int)) (gE B (e0 B) s)) → (∀ s : Nat, s < 8 → bs (M' 19 (s : Int)) (gE B (e1 B) s)) → Q 0 M') : am_s am_P am_gg (d + 3) 127 [.inr (.inr 17)] M0 Q := by
  have hn := hW.1
  refine (v_127_17 _ _ _).mpr (x_fill_18 (x_fill_19 ?_))
  refine p_for (S := Int × (Nat → Int → Int)) (X := fun i x => am_x am_P am_gg (d + 2) am_k127 0 Q 20 [some (.inr (.inr 17)), some (.inl (x.1)), some (.inl (i)), none] [] x.2 0 0) 9 (fun n x => eF2 M0 x.2 ∧ eS B (e0 B) (x.2 18) n ∧ eS B (e1 B) (x.2 19) n ∧ (x.1 = 0 → eC B (e0 B) (x.2 18) (B 0) ∧ eC B (e1 B) (x.2 19) (B 0))) ?_ ?_ 0 (1, am_fil (am_fil M0 18 0 8 0) 19 0 8 0) (by omega) ?_
  · intro x ⟨f, s1, s2, _⟩
    refine (h_127_20_17 _ _ _ _ _).mpr ?_
    rw [if_pos (by omega)]
    exact hQ _ f (fun s hs => eS_fin hW (by omega) s1 hs) (fun s hs => eS_fin hW (by omega) s2 hs)
  · intro n x hn9 ⟨f, s1, s2, cl⟩ k
    refine (h_127_20_17 _ _ _ _ _).mpr ?_
    rw [if_neg (by omega)]
    refine @p_if _ _ _ _ ?_ ?_
    · intro e
      exact hQ _ f (fun s hs => eC_fin s1 (cl e).1 hs) (fun s hs => eC_fin s2 (cl e).2 hs)
    · intro e
      refine p_for (S := Int × (Nat → Int → Int)) (X := fun i x => am_x am_P am_gg (d + 2) am_k127 0 Q 34 [some (.inr (.inr 17)), some (.inl (x.1)), some (.inl ((n : Int))), some (.inl (i))] [] x.2 0 0) (B 0) (fun c x => eF2 M0 x.2 ∧ eP B (e0 B) (x.2 18) n c ∧ eP B (e1 B) (x.2 19) n c ∧ (x.1 = 0 → eC B (e0 B) (x.2 18) c ∧ eC B (e1 B) (x.2 19) c)) ?_ ?_ 0 (0, x.2) (by omega) ⟨f, eP_0 s1, eP_0 s2, fun _ => ⟨fun r hr => absurd hr (Nat.not_lt_zero r), fun r hr => absurd hr (Nat.not_lt_zero r)⟩⟩
      · intro y ⟨f, p1, p2, cl⟩
        have hg : xgb B y.2 2 := xgb_eq hg0 (fun c _ _ => f c (by omega) (by omega))
        refine (h_127_34_17 _ _ _ _ _ _).mpr ?_
        rw [xg_n hg, w32_s (i := n) (by omega)]
        rw [if_neg (by omega)]
        refine am_x_le [some (.inr (.inr 17)), some (.inl (y.1)), some (.inl (((n + 1 : Nat) : Int))), none] (am_lb_le _ _ ⟨rfl, rfl, rfl, trivial⟩) ?_
        exact k y ⟨f, eP_full p1, eP_full p2, cl⟩
      · intro c y hc ⟨f, p1, p2, cl⟩ k2
        have hg : xgb B y.2 2 := xgb_eq hg0 (fun c _ _ => f c (by omega) (by omega))
        have ss : bs (y.2 16 4) (fun r => r < B 0 ∧ gSnd B r) := by rw [f 16 (by decide) (by decide)]; exact hs0
        refine (h_127_34_17 _ _ _ _ _ _).mpr ?_
        rw [xg_n hg, w32_s (i := c) (by omega)]
        rw [if_pos (by omega)]
        refine x_isSound (by omega) ss hc ?_ ?_
        · intro hS
          rw [if_neg (by omega)]
          have up18 : ∀ (j : Int) (v w : Int), am_up (am_up y.2 18 (gsy B c : Int) v) 19 (gsy B c : Int) w 18 j = if j = (gsy B c : Int) then v else y.2 18 j := fun j v w => by rw [up_nc _ _ _ _ (by decide), up_ci]
          have up19 : ∀ (j : Int) (v w : Int), am_up (am_up y.2 18 (gsy B c : Int) v) 19 (gsy B c : Int) w 19 j = if j = (gsy B c : Int) then w else y.2 19 j := fun j v w => by rw [up_ci, up_nc _ _ _ _ (by decide)]
          have nx : ∀ fl : Int, (fl = 0 → i_or (y.2 18 (gsy B c : Int)) (sv (y.2 18) (gsg B c 0)) = y.2 18 (gsy B c : Int) ∧ i_or (y.2 19 (gsy B c : Int)) (sv (y.2 19) (gsg B c (gsz B c - 1))) = y.2 19 (gsy B c : Int)) → (fl = 0 → y.1 = 0) → am_x am_P am_gg (d + 2) am_k127 0 Q 34 [some (.inr (.inr 17)), some (.inl (fl)), some (.inl ((n : Int))), some (.inl (((c + 1 : Nat) : Int)))] [] (am_up (am_up y.2 18 (gsy B c : Int) (i_or (y.2 18 (gsy B c : Int)) (sv (y.2 18) (gsg B c 0)))) 19 (gsy B c : Int) (i_or (y.2 19 (gsy B c : Int)) (sv (y.2 19) (gsg B c (gsz B c - 1))))) 0 0 := by
            intro fl hq hy
            refine k2 (fl, am_up (am_up y.2 18 (gsy B c : Int) (i_or (y.2 18 (gsy B c : Int)) (sv (y.2 18) (gsg B c 0)))) 19 (gsy B c : Int) (i_or (y.2 19 (gsy B c : Int)) (sv (y.2 19) (gsg B c (gsz B c - 1))))) ⟨fun k a b => ?_, ?_, ?_, fun z => ⟨?_, ?_⟩⟩
            · show am_up (am_up y.2 18 _ _) 19 _ _ k = _
              rw [up_nc _ _ _ _ b, up_nc _ _ _ _ a]; exact f k a b
            · exact eP_step hW (e0_lt hW) hc hS p1 (fun j => up18 j _ (i_or (y.2 19 (gsy B c : Int)) (sv (y.2 19) (gsg B c (gsz B c - 1)))))
            · exact eP_step hW (e1_lt hW) hc hS p2 (fun j => up19 j _ _)
            · exact eC_grow (fun s hs => (p1.1 s hs).1) hW (e0_lt hW) hc (cl (hy z)).1 (hq z).1 (fun j => up18 j _ (i_or (y.2 19 (gsy B c : Int)) (sv (y.2 19) (gsg B c (gsz B c - 1)))))
            · exact eC_grow (fun s hs => (p2.1 s hs).1) hW (e1_lt hW) hc (cl (hy z)).2 (hq z).2 (fun j => up19 j _ _)
          refine x_growEnds hW hg hc (fun fl hfl hq => ?_)
          rcases hfl with rfl | rfl
          · rw [if_pos (by omega)]
            by_cases y0 : y.1 = 0
            · exact nx y.1 (fun _ => hq rfl) id
            · exact nx y.1 (fun z => absurd z y0) id
          · rw [if_neg (by omega)]
            exact nx 1 (fun z => by omega) (fun z => by omega)
        · intro hS
          rw [if_pos (by omega)]
          exact k2 y ⟨f, eP_skip p1 hS, eP_skip p2 hS, fun z => ⟨eC_skip (cl z).1 hS, eC_skip (cl z).2 hS⟩⟩
  · refine ⟨fun c a b => ?_, eS_0 (fun s hs => ?_), eS_0 (fun s hs => ?_), fun z => ?_⟩
    · show am_fil (am_fil M0 18 0 8 0) 19 0 8 0 c = _
      rw [fil_nc _ _ _ _ _ b, fil_nc _ _ _ _ _ a]
    · show am_fil (am_fil M0 18 0 8 0) 19 0 8 0 18 _ = _
      rw [fil_nc _ _ _ _ _ (by decide), fil_at, if_pos (by omega)]
    · show am_fil (am_fil M0 18 0 8 0) 19 0 8 0 19 _ = _
      rw [fil_at, if_pos (by omega)]
    · dsimp only at z; omega
theorem x_join {a b : Int} {pl pr : Nat → Prop} {P P' : Nat → Nat → Prop} (ha : bs a pl) (hb : bs b pr) (h20 : ∀ l : Nat, l < 16 → bs (M 20 (l : Int)) (P l)) (h21 : ∀ l : Nat, l < 16 → bs (M 21 (l : Int)) (P' l)) (hQ : ∀ M', (∀ c, c ≠ 20 → c ≠ 21 → M' c = M c) → (∀ l : Nat, l < 16 → bs (M' 20 (l : Int)) (fun x => P l x ∨ pl l ∧ pr x)) → (∀ l : Nat, l < 16 → bs (M' 21 (l : Int)) (fun x => P' l x ∨ pr l ∧ pl x)) → Q 0 M') : am_s am_P am_gg (d + 1) 130 [.inr (.inr 17), .inl a, .inl b] M Q := by
  refine (v_130_17 _ _ _ _ _).mpr ?_
  refine p_for (S := (Nat → Int → Int)) (X := fun i M => am_x am_P am_gg d am_k130 0 Q 2 [some (.inr (.inr 17)), some (.inl (a)), some (.inl (b)), some (.inl (i))] [] M 0 0) 16 (fun c M1 => (∀ k, k ≠ 20 → k ≠ 21 → M1 k = M k) ∧ (∀ l : Nat, l < 16 → bs (M1 20 (l : Int)) (fun x => P l x ∨ l < c ∧ pl l ∧ pr x)) ∧ ∀ l : Nat, l < 16 → bs (M1 21 (l : Int)) (fun x => P' l x ∨ l < c ∧ pr l ∧ pl x)) ?_ ?_ 0 M (by omega) ⟨fun _ _ _ => rfl, fun l hl => bs_cong (h20 l hl) (fun x => ⟨Or.inl, fun z => z.elim id (fun z => absurd z.1 (Nat.not_lt_zero l))⟩), fun l hl => bs_cong (h21 l hl) (fun x => ⟨Or.inl, fun z => z.elim id (fun z => absurd z.1 (Nat.not_lt_zero l))⟩)⟩
  · intro M1 ⟨f, z1, z2⟩
    refine (h_130_2_17 _ _ _ _ _ _).mpr ?_
    rw [if_neg (by omega)]
    exact hQ M1 f (fun l hl => bs_cong (z1 l hl) (fun x => or_congr Iff.rfl ⟨fun z => z.2, fun z => ⟨hl, z⟩⟩)) (fun l hl => bs_cong (z2 l hl) (fun x => or_congr Iff.rfl ⟨fun z => z.2, fun z => ⟨hl, z⟩⟩))
  · intro c M1 hc ⟨f, z1, z2⟩ k
    -- one letter more, on both sides
    have nx : ∀ M2 : (Nat → Int → Int), (∀ k, k ≠ 20 → k ≠ 21 → M2 k = M1 k) → (∀ j : Int, M2 20 j = if j = (c : Int) then (M2 20 (c : Int)) else M1 20 j) → (∀ j : Int, M2 21 j = if j = (c : Int) then (M2 21 (c : Int)) else M1 21 j) → ((pl c → M2 20 (c : Int) = i_or (M1 20 (c : Int)) b) ∧ (¬ pl c → M2 20 (c : Int) = M1 20 (c : Int))) → ((pr c → M2 21 (c : Int) = i_or (M1 21 (c : Int)) a) ∧ (¬ pr c → M2 21 (c : Int) = M1 21 (c : Int))) → am_x am_P am_gg d am_k130 0 Q 2 [some (.inr (.inr 17)), some (.inl (a)), some (.inl (b)), some (.inl ((w32 ((c : Int) + 1))))] [] M2 0 0 := by
      intro M2 f2 e20 e21 q20 q21
      rw [w32_s (by omega)]
      refine k M2 ⟨fun k x y => by rw [f2 k x y]; exact f k x y, fun l hl => ?_, fun l hl => ?_⟩
      · by_cases e : l = c
        · subst e
          by_cases q : pl l
          · rw [q20.1 q]
            refine bs_cong (bs_or (z1 l hl) hb) (fun x => ⟨?_, ?_⟩)
            · rintro ((z | z) | z)
              · exact Or.inl z
              · exact absurd z.1 (Nat.lt_irrefl _)
              · exact Or.inr ⟨by omega, q, z⟩
            · rintro (z | z)
              · exact Or.inl (Or.inl z)
              · exact Or.inr z.2.2
          · rw [q20.2 q]
            exact bs_cong (z1 l hl) (fun x => or_congr Iff.rfl ⟨fun z => absurd z.2.1 q, fun z => absurd z.2.1 q⟩)
        · rw [e20, if_neg (by omega)]
          exact bs_cong (z1 l hl) (fun x => or_congr Iff.rfl ⟨fun z => ⟨by omega, z.2⟩, fun z => ⟨by omega, z.2⟩⟩)
      · by_cases e : l = c
        · subst e
          by_cases q : pr l
          · rw [q21.1 q]
            refine bs_cong (bs_or (z2 l hl) ha) (fun x => ⟨?_, ?_⟩)
            · rintro ((z | z) | z)
              · exact Or.inl z
              · exact absurd z.1 (Nat.lt_irrefl _)
              · exact Or.inr ⟨by omega, q, z⟩
            · rintro (z | z)
              · exact Or.inl (Or.inl z)
              · exact Or.inr z.2.2
          · rw [q21.2 q]
            exact bs_cong (z2 l hl) (fun x => or_congr Iff.rfl ⟨fun z => absurd z.2.1 q, fun z => absurd z.2.1 q⟩)
        · rw [e21, if_neg (by omega)]
          exact bs_cong (z2 l hl) (fun x => or_congr Iff.rfl ⟨fun z => ⟨by omega, z.2⟩, fun z => ⟨by omega, z.2⟩⟩)
    have self : ∀ (g : Int → Int) (j : Int), g j = if j = (c : Int) then g (c : Int) else g j := fun g j => by
      by_cases q : j = (c : Int)
      · rw [if_pos q, q]
      · rw [if_neg q]
    refine (h_130_2_17 _ _ _ _ _ _).mpr ?_
    rw [if_pos (by omega)]
    refine p_bit ha (by omega) (fun np => ?_) (fun hp => ?_)
    · refine p_bit hb (by omega) (fun np2 => ?_) (fun hp2 => ?_)
      · exact nx M1 (fun _ _ _ => rfl) (fun j => self _ j) (fun j => self _ j) ⟨fun z => absurd z np, fun _ => rfl⟩ ⟨fun z => absurd z np2, fun _ => rfl⟩
      · rw [if_pos (by omega)]
        rw [if_pos (by omega)]
        refine nx _ (fun k x y => up_nc _ _ _ _ y) (fun j => ?_) (fun j => ?_) ⟨fun z => absurd z np, fun _ => by rw [up_nc _ _ _ _ (by decide)]⟩ ⟨fun _ => up_eq _ _ _ _, fun z => absurd hp2 z⟩
        · rw [up_nc _ _ _ _ (by decide)]; exact self _ j
        · rw [up_ci, up_eq]
    · rw [if_pos (by omega)]
      rw [if_pos (by omega)]
      refine p_bit hb (by omega) (fun np2 => ?_) (fun hp2 => ?_)
      · refine nx _ (fun k x y => up_nc _ _ _ _ x) (fun j => ?_) (fun j => ?_) ⟨fun _ => up_eq _ _ _ _, fun z => absurd hp z⟩ ⟨fun z => absurd z np2, fun _ => by rw [up_nc _ _ _ _ (by decide)]⟩
        · rw [up_ci, up_eq]
        · rw [up_nc _ _ _ _ (by decide)]; exact self _ j
      · rw [if_pos (by omega)]
        rw [if_pos (by omega)]
        refine nx _ (fun k x y => by rw [up_nc _ _ _ _ y, up_nc _ _ _ _ x]) (fun j => ?_) (fun j => ?_) ⟨fun _ => by rw [up_nc _ _ _ _ (by decide), up_eq], fun z => absurd hp z⟩ ⟨fun _ => up_eq _ _ _ _, fun z => absurd hp2 z⟩
        · rw [up_nc _ _ _ _ (by decide), up_ci, up_eq]
        · rw [up_ci, up_eq, up_nc _ _ _ _ (by decide)]
theorem x_findBeside (hW : gW B) (hg0 : xgb B M0 2) (hu0 : bs (M0 16 5) (gUsd B)) (h18 : ∀ s : Nat, s < 8 → bs (M0 18 (s : Int)) (gE B (e0 B) s)) (h19 : ∀ s : Nat, s < 8 → bs (M0 19 (s : Int)) (gE B (e1 B) s)) (hQ : ∀ M', (∀ c, c ≠ 20 → c ≠ 21 → M' c = M0 c) → (∀ l : Nat, l < 16 → bs (M' 20 (l : Int)) (gBes B l)) → (∀ l : Nat, l < 16 → bs (M' 21 (l : Int)) (fun x => gBes B x l)) → Q 0 M') : am_s am_P am_gg (d + 3) 129 [.inr (.inr 17)] M0 Q := by
  have hn := hW.1
  refine (v_129_17 _ _ _).mpr (x_fill_20 (x_fill_21 ?_))
  have keep : ∀ M', (∀ c, c ≠ 20 → c ≠ 21 → M' c = M0 c) → xgb B M' 2 ∧ bs (M' 16 5) (gUsd B) ∧ (∀ s : Nat, s < 8 → bs (M' 18 (s : Int)) (gE B (e0 B) s)) ∧ (∀ s : Nat, s < 8 → bs (M' 19 (s : Int)) (gE B (e1 B) s)) := fun M' h =>
    ⟨xgb_eq hg0 (fun c _ _ => h c (by omega) (by omega)), by rw [h 16 (by decide) (by decide)]; exact hu0, by rw [h 18 (by decide) (by decide)]; exact h18, by rw [h 19 (by decide) (by decide)]; exact h19⟩
  refine p_for (S := (Nat → Int → Int)) (X := fun i M => am_x am_P am_gg (d + 2) am_k129 0 Q 18 [some (.inr (.inr 17)), some (.inl (i)), none] [] M 0 0) (B 0) (fun a M => (∀ c, c ≠ 20 → c ≠ 21 → M c = M0 c) ∧ (∀ l : Nat, l < 16 → bs (M 20 (l : Int)) (bsd B a l)) ∧ ∀ l : Nat, l < 16 → bs (M 21 (l : Int)) (fun x => bsd B a x l)) ?_ ?_ 0 _ (by omega) ?_
  · intro M1 ⟨f, z1, z2⟩
    obtain ⟨k1, k2, k3, k4⟩ := keep M1 f
    refine (h_129_18_17 _ _ _ _).mpr ?_
    rw [xg_n k1]
    rw [if_neg (by omega)]
    exact hQ M1 f (fun l hl => bs_cong (z1 l hl) (fun j => bsd_fin)) (fun l hl => bs_cong (z2 l hl) (fun j => bsd_fin))
  · intro a M1 ha ⟨f, z1, z2⟩ k
    obtain ⟨k1, k2, k3, k4⟩ := keep M1 f
    obtain ⟨hsy, hz, hz4, -, hs⟩ := hW.2.2.2.1 a ha
    refine (h_129_18_17 _ _ _ _).mpr ?_
    rw [xg_n k1, w32_s (i := a) (by omega)]
    rw [if_pos (by omega)]
    refine x_isUsed (by omega) k2 ?_ ?_
    · intro hU
      rw [if_neg (by omega)]
      refine p_for (S := (Nat → Int → Int)) (X := fun i M => am_x am_P am_gg (d + 2) am_k129 0 Q 39 [some (.inr (.inr 17)), some (.inl ((a : Int))), some (.inl (i))] [] M 0 0) (gsz B a) (fun b M => 1 ≤ b ∧ (∀ c, c ≠ 20 → c ≠ 21 → M c = M0 c) ∧ (∀ l : Nat, l < 16 → bs (M 20 (l : Int)) (bse B a (b - 1) l)) ∧ ∀ l : Nat, l < 16 → bs (M 21 (l : Int)) (fun x => bse B a (b - 1) x l)) ?_ ?_ 1 M1 (by omega) ⟨by omega, f, fun l hl => bs_cong (z1 l hl) (fun j => bse_0), fun l hl => bs_cong (z2 l hl) (fun j => bse_0)⟩
      · intro M2 ⟨_, f, z1, z2⟩
        obtain ⟨k1, k2, k3, k4⟩ := keep M2 f
        refine (h_129_39_17 _ _ _ _ _).mpr ?_
        rw [xg_sz k1 ha, w32_s (i := a) (by omega)]
        rw [if_pos (by omega)]
        rw [if_neg (by omega)]
        refine am_x_le [some (.inr (.inr 17)), some (.inl (((a + 1 : Nat) : Int))), none] (am_lb_le _ _ ⟨rfl, rfl, trivial⟩) ?_
        exact k M2 ⟨f, fun l hl => bs_cong (z1 l hl) (fun j => bse_full (Or.inr (by omega))), fun l hl => bs_cong (z2 l hl) (fun j => bse_full (Or.inr (by omega)))⟩
      · intro b M2 hb ⟨hb1, f, z1, z2⟩ k'
        obtain ⟨k1, k2, k3, k4⟩ := keep M2 f
        refine (h_129_39_17 _ _ _ _ _).mpr ?_
        rw [xg_sz k1 ha]
        rw [if_pos (by omega)]
        rw [if_pos (by omega)]
        rw [show w32 ((b : Int) - 1) = ((b - 1 : Nat) : Int) by rw [w32_i (by omega) (by omega)]; omega, w32_s (i := b) (by omega)]
        refine x_signAt k1 hW ha (by omega) (x_lastOf (hs _ (by omega)) (x_signAt k1 hW ha hb (x_firstOf (hs _ hb) ?_)))
        refine x_join (sv_fin (hs _ (by omega)) k4) (sv_fin (hs _ hb) k3) z1 z2 (fun M3 f3 y1 y2 => ?_)
        refine k' M3 ⟨by omega, fun c x y => by rw [f3 c x y]; exact f c x y, fun l hl => bs_cong (y1 l hl) (fun j => ?_), fun l hl => bs_cong (y2 l hl) (fun j => ?_)⟩
        · rw [show b + 1 - 1 = (b - 1) + 1 by omega, bse_s hU (by omega), show b - 1 + 1 = b by omega]
        · rw [show b + 1 - 1 = (b - 1) + 1 by omega, bse_s hU (by omega), show b - 1 + 1 = b by omega]
          exact or_congr Iff.rfl and_comm
    · intro hU
      rw [if_pos (by omega)]
      exact k M1 ⟨f, fun l hl => bs_cong (z1 l hl) (fun j => Iff.trans bse_0 (bse_full (Or.inl hU))), fun l hl => bs_cong (z2 l hl) (fun j => Iff.trans bse_0 (bse_full (Or.inl hU)))⟩
  · refine ⟨fun c a b => ?_, fun l hl => ?_, fun l hl => ?_⟩
    · rw [fil_nc _ _ _ _ _ b, fil_nc _ _ _ _ _ a]
    · rw [fil_nc _ _ _ _ _ (by decide), fil_at, if_pos (by omega)]
      exact bs_cong bs_0 (fun j => ⟨fun q => q.elim, fun ⟨r, i, h, _⟩ => absurd h (Nat.not_lt_zero r)⟩)
    · rw [fil_at, if_pos (by omega)]
      exact bs_cong bs_0 (fun j => ⟨fun q => q.elim, fun ⟨r, i, h, _⟩ => absurd h (Nat.not_lt_zero r)⟩)
theorem sOK_cong {M' : (Nat → Int → Int)} (h : sOK B M) (e16 : ∀ i : Int, 2 ≤ i → i ≤ 6 → M' 16 i = M 16 i) (e : ∀ c, 18 ≤ c → c ≤ 21 → M' c = M c) : sOK B M' := by
  obtain ⟨h1, h2, h3, h4, h5, h6, h7, h8, h9⟩ := h
  refine ⟨by rw [e16 2 (by omega) (by omega)]; exact h1, by rw [e16 3 (by omega) (by omega)]; exact h2, by rw [e16 4 (by omega) (by omega)]; exact h3, by rw [e16 5 (by omega) (by omega)]; exact h4, by rw [e16 6 (by omega) (by omega)]; exact h5, ?_, ?_, ?_, ?_⟩
  · rw [e 18 (by omega) (by omega)]; exact h6
  · rw [e 19 (by omega) (by omega)]; exact h7
  · rw [e 20 (by omega) (by omega)]; exact h8
  · rw [e 21 (by omega) (by omega)]; exact h9
/-- the class's sets are made ready -/
theorem x_sets (hW : gW B) (hg : xgb B M 2) (hold : M 16 1 = M 2 0 → sOK B M) (hQ : ∀ M', sF M M' → M' 16 1 = M' 2 0 → sOK B M' → Q 0 M') : am_s am_P am_gg (d + 4) 118 [.inr (.inr 17)] M Q := by
  have hn := hW.1
  refine (v_118_17 _ _ _).mpr ?_
  refine @p_if _ _ _ _ ?_ ?_
  · intro e
    exact hQ M sF_rf e (hold e)
  intro _
  refine p_for (S := (Nat → Int → Int)) (X := fun i M => am_x am_P am_gg (d + 3) am_k118 0 Q 28 [some (.inr (.inr 17)), some (.inl (i))] [] M 0 0) (B 0) (fun a M1 => sF M M1 ∧ M1 16 1 = M 2 0 ∧ ∀ r : Nat, r < a → bs (M1 17 (r : Int)) (gIn B r)) ?_ ?_ 0 _ (by omega) ⟨sF_up sF_rf (by omega), up_eq _ _ _ _, fun r hr => absurd hr (Nat.not_lt_zero r)⟩
  · intro M1 ⟨f1, e1, si⟩
    have hg1 := sF_g f1 hg
    refine (h_118_28_17 _ _ _ _).mpr ?_
    rw [xg_n hg1]
    rw [if_neg (by omega)]
    refine x_findGood hW hg1 si (fun M2 f2 g2 s2 => ?_)
    have hg2 := fr16_g f2 hg1
    refine x_findReached hW hg2 (fr16_i f2 si) s2 (fun M3 f3 r3 => ?_)
    have hg3 := fr16_g f3 hg2
    have s3 : bs (M3 16 4) (fun r => r < B 0 ∧ gSnd B r) := by rw [f3.2 4 (by omega)]; exact s2
    refine x_findUsed hW hg3 s3 r3 (fun M4 f4 u4 l4 => ?_)
    have hg4 := fr16_g f4 hg3
    have s4 : bs (M4 16 4) (fun r => r < B 0 ∧ gSnd B r) := by rw [f4.2 4 (by omega)]; exact s3
    refine x_findEnds hW hg4 s4 (fun M5 f5 a5 b5 => ?_)
    have hg5 : xgb B M5 2 := xgb_eq hg4 (fun c _ _ => f5 c (by omega) (by omega))
    have u5 : bs (M5 16 5) (gUsd B) := by rw [f5 16 (by decide) (by decide)]; exact u4
    refine x_findBeside hW hg5 u5 a5 b5 (fun M6 f6 y1 y2 => ?_)
    have c16 : M6 16 = M4 16 := by rw [f6 16 (by decide) (by decide), f5 16 (by decide) (by decide)]
    have oth : sF M M6 := fun c hc => by
      rw [f6 c (by omega) (by omega), f5 c (by omega) (by omega), f4.1 c (by omega), f3.1 c (by omega), f2.1 c (by omega)]; exact f1 c hc
    refine hQ M6 oth ?_ ⟨?_, ?_, ?_, ?_, ?_, ?_, ?_, y1, y2⟩
    · rw [c16, f4.2 1 (by omega), f3.2 1 (by omega), f2.2 1 (by omega), e1, oth 2 (by omega)]
    · rw [c16, f4.2 2 (by omega), f3.2 2 (by omega)]; exact g2
    · rw [c16, f4.2 3 (by omega)]; exact r3
    · rw [c16]; exact s4
    · rw [c16]; exact u4
    · rw [c16]; exact l4
    · rw [f6 18 (by decide) (by decide)]; exact a5
    · rw [f6 19 (by decide) (by decide)]; exact b5
  · intro a M1 ha ⟨f1, e1, si⟩ k
    have hg1 := sF_g f1 hg
    refine (h_118_28_17 _ _ _ _).mpr ?_
    rw [xg_n hg1]
    rw [if_pos (by omega)]
    refine x_symbolsIn hW hg1 ha (fun v hv => ?_)
    rw [if_pos (by omega)]
    rw [w32_s (by omega)]
    refine k _ ⟨sF_up f1 (by omega), by rw [up_nc _ _ _ _ (by decide)]; exact e1, fun r hr => ?_⟩
    rw [up_ci]
    by_cases q : r = a
    · subst q; rw [if_pos rfl]; exact hv
    · rw [if_neg (by omega)]; exact si r (by omega)
end S82
