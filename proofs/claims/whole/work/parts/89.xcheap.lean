/-! the class: YIELDS and CONTEXTS made ready -/
def chOK (B : Nat → Nat) (M : (Nat → Int → Int)) : Prop := kA 23 (gK B) M ∧ kA 24 (gX B) M ∧ (∀ r, r < B 0 → gon B r = true → kRow B (gK B) M r) ∧ (∃ (n : Nat) (o : Nat → Nat), M 22 5 = (n : Int) ∧ ord (gK B) (M 25) n o ∧ (∀ s, s < 8 → gK B s ≠ NK → ∃ i, i < n ∧ o i = s) ∧ ∀ i j, i < j → j < n → o i ≠ o j) ∧ (∃ (n : Nat) (o : Nat → Nat), M 22 7 = (n : Int) ∧ ord (gX B) (M 26) n o ∧ (∀ s, s < 8 → gX B s ≠ NK → ∃ i, i < n ∧ o i = s) ∧ ∀ i j, i < j → j < n → o i ≠ o j) ∧ (∀ s, s < 8 → gK B s ≠ NK → mdW B (gK B) M s) ∧ ∀ s, s < 8 → gX B s ≠ NK → lw (xL B (gK B) (gX B) s) (35 + 6 * s) M ∧ lw (xRt B (gK B) (gX B) s) (37 + 6 * s) M
def chF (M M' : (Nat → Int → Int)) : Prop := ∀ c, c < 22 ∨ 80 < c → M' c = M c
section S89
variable {B : Nat → Nat} {M M0 : (Nat → Int → Int)} {d : Nat} {Q : Int → (Nat → Int → Int) → Prop}
theorem lF_g {L : Nat} {M1 : (Nat → Int → Int)} (hL : ltB L = true) (f : lF L M M1) (hg : xgb B M 2) : xgb B M1 2 := by
  have := ltB_lt hL
  exact xgb_eq hg (fun c _ _ => f c (by omega) (by omega))
theorem lF_c {L : Nat} {M1 : (Nat → Int → Int)} (hL : ltB L = true) (f : lF L M M1) {c : Nat} (hc : c < 33) : M1 c = M c := by
  have := ltB_lt hL
  exact f c (by omega) (by omega)
theorem lF_K {L c : Nat} {K : Nat → Nat} {M1 : (Nat → Int → Int)} (hL : ltB L = true) (f : lF L M M1) (hc : c < 33) (h : kA c K M) : kA c K M1 := fun s hs => by rw [lF_c hL f hc]; exact h s hs
theorem lF_m {L g : Nat} {K : Nat → Nat} {M1 : (Nat → Int → Int)} (hL : ltB L = true) (hg : g < 8) (ne : 33 + 6 * g ≠ L) (f : lF L M M1) (h : mdW B K M g) : mdW B K M1 g := lw_lF hL (ltB_m hg).1 ne f h
theorem x_spellYield (hW : gW B) (hg : xgb B M 2) (hK : kA 23 (gK B) M) {s : Nat} (hs : s < 8) (hN : gK B s ≠ NK) (hm : ∀ g, g < 8 → gK B g < gK B s → mdW B (gK B) M g) (hQ : ∀ M', lF (33 + 6 * s) M M' → mdW B (gK B) M' s → Q 0 M') : am_s am_P am_gg (d + 3) 40 [.inr (.inr 23), .inl (s : Int)] M Q := by
  have hp := gpos_ok hW
  have hy := (gK_ok hW).1
  have hn16 := hW.1
  obtain ⟨ok, hsy, hk, hr, hc, -⟩ := y_own hW hp hy hs hN
  have ls := @y_less B (gK B) (gpos B) hW hp hy s hs hN
  have eW := yW_eq hW hp hy hs hN
  have hlen := yW_len hW hp hy (gK B s + 1) s hs hN (by omega)
  have hc2 := (hy.1 s hs hN).2.1
  obtain ⟨-, hz, hz4, -, hsg⟩ := hW.2.2.2.1 _ hr
  have hL := (ltB_m hs).1
  refine (w_40_23 _ _ _ _).mpr (x_yieldRule hK hs ?_)
  rw [if_pos (by omega)]
  rw [(rf_made s hs).1]
  generalize hrr : gK B s % 16 = r at *
  refine (g_40_12_23_sL _ _ _ _ _ _).mpr (lt_isR hL (x_ltclear hL (fun M1 f1 w1 => ?_)))
  have hg1 := lF_g hL f1 hg
  rw [xg_sz hg1 hr]
  rw [if_pos (by omega)]
  rw [if_pos (by omega)]
  rw [(rf_made s hs).1]
  refine am_x_le [none, none, none] (am_lb_le _ _ trivial) ?_
  refine (g_40_33_sL_s23 _ _ _ _ _ _ _).mpr ?_
  have := x_spellPart (B := B) (K := gK B) (M := M1) (d := d) (Q := fun _ M' => Q 0 M') (l := []) (L := 33 + 6 * s) (r := r) (f := 0) (n := gsz B r) hW hr (by omega) hL hg1 (fun i _ hi h8 => ⟨lF_m hL h8 (fun z => ?_) f1 (hm _ h8 (ls (by omega) h8).1), fun z => ?_⟩) w1 (by rw [← eW]; show 0 + _ ≤ _; omega) (fun M2 f2 w2 => ?_)
  · rw [Nat.zero_add] at this; exact this
  · have e : gsg B r i = s := by omega
    have := (ls (j := i) (by omega) h8).1
    rw [e] at this; omega
  · have e : gsg B r i = s := by omega
    have := (ls (j := i) (by omega) h8).1
    rw [e] at this; omega
  · refine hQ M2 (lF_tr f1 f2) ?_
    rw [List.nil_append, ← eW] at w2; exact w2
theorem x_spellContext (hW : gW B) (hg : xgb B M 2) (hX : kA 24 (gX B) M) (hmd : ∀ g, g < 8 → gK B g ≠ NK → mdW B (gK B) M g) {s : Nat} (hs : s < 8) (hN : gX B s ≠ NK) (hm : ∀ g, g < 8 → gX B g < gX B s → lw (xL B (gK B) (gX B) g) (35 + 6 * g) M ∧ lw (xRt B (gK B) (gX B) g) (37 + 6 * g) M) (hQ : ∀ M', (∀ c, c < 35 + 6 * s ∨ 38 + 6 * s < c → M' c = M c) → lw (xL B (gK B) (gX B) s) (35 + 6 * s) M' → lw (xRt B (gK B) (gX B) s) (37 + 6 * s) M' → Q 0 M') : am_s am_P am_gg (d + 3) 41 [.inr (.inr 23), .inl (s : Int)] M Q := by
  have hp := gpos_ok hW
  have hy := (gK_ok hW).1
  have hx := (gX_ok hW).1
  have hn16 := hW.1
  have h28 := hW.2.2.1
  have hL := (ltB_m hs).2.1
  have hR := (ltB_m hs).2.2
  have hlen := xLR_len hW hp hy hx (gX B s + 1) s hs hN (by omega)
  have hc2 := (hx.1 s hs hN).1
  refine (w_41_23 _ _ _ _).mpr ?_
  rw [if_pos (by omega)]
  rw [(rf_made s hs).2.1]
  refine (g_41_6_23_sL _ _ _ _ _).mpr ?_
  rw [if_pos (by omega)]
  rw [(rf_made s hs).2.2]
  refine (g_41_13_23_L_sL _ _ _ _ _ _).mpr (lt_isR hL (x_ltclear hL (fun M1 f1 w1 => lt_isR hR (x_ltclear hR (fun M2 f2 w2 => ?_)))))
  have hg2 := lF_g hR f2 (lF_g hL f1 hg)
  have hX2 : kA 24 (gX B) M2 := lF_K hR f2 (by omega) (lF_K hL f1 (by omega) hX)
  have w1' : lw [] (35 + 6 * s) M2 := lw_lF hR hL (by omega) f2 w1
  have fr2 : ∀ c, c < 35 + 6 * s ∨ 38 + 6 * s < c → M2 c = M c := fun c hc => by rw [f2 c (by omega) (by omega), f1 c (by omega) (by omega)]
  rw [xg_rt hg2]
  refine @p_if _ _ _ _ ?_ ?_
  · intro e
    have e : s = B 2 := by omega
    subst e
    refine hQ M2 fr2 ?_ ?_
    · rw [xL_0]; exact w1'
    · rw [xRt_0]; exact w2
  · intro e
    have h2 : s ≠ B 2 := by omega
    obtain ⟨ok, hgs, hcc, -, lt⟩ := x_own hW hp hy hx hs h2 hN
    have eL := xL_eq hW hp hy hx hs h2 hN
    have eR := xRt_eq hW hp hy hx hs h2 hN
    refine x_contextRule hg2 hX2 hs h2 (x_contextPlace hg2 hX2 hs h2 ?_)
    generalize gX B s / 4 % 16 = r at *
    generalize hii : gX B s % 4 = i at *
    obtain ⟨hsy, hz, hz4, -, hsg⟩ := hW.2.2.2.1 r ok.1
    have hr := ok.1
    have hi := ok.2.2.1
    have hav := ok.2.2.2.2.2.2.1
    rw [xg_sy hg2 hr]
    rw [if_pos (by omega)]
    rw [if_pos (by omega)]
    rw [(rf_made _ hsy).2.1]
    have ne : gsy B r ≠ s := fun z => by rw [z] at lt; omega
    refine am_x_le [some (.inr (.inr 23)), none, some (.inr (.inr (35 + 6 * s + 1))), some (.inr (.inr (37 + 6 * s + 1))), some (.inl ((r : Int))), some (.inl ((i : Int))), some (.inl ((gsy B r : Int)))] (am_lb_le _ _ ⟨rfl, rfl, rfl, rfl, rfl, rfl, trivial⟩) ?_
    refine (g_41_67_23_L_L_sL_sL _ _ _ _ _ _ _ _ _ _).mpr (lt_isR hL ?_)
    obtain ⟨la, ra⟩ := hm _ hsy lt
    rw [eL, List.length_append] at hlen
    rw [eR, List.length_append] at hlen
    have la2 : lw (xL B (gK B) (gX B) (gsy B r)) (35 + 6 * gsy B r) M2 := lw_eq la (fr2 _ (by omega)) (fr2 _ (by omega))
    have md2 : ∀ M3 : (Nat → Int → Int), (∀ c, c < 35 + 6 * s ∨ 38 + 6 * s < c → M3 c = M c) → ∀ g, g < 8 → gK B g ≠ NK → mdW B (gK B) M3 g := fun M3 f3 g hg8 hgN => lw_eq (hmd g hg8 hgN) (f3 _ (by omega)) (f3 _ (by omega))
    refine x_ltaddAll hL (ltB_m hsy).2.1 (by omega) w1' la2 (by show 0 + _ ≤ _; omega) (fun M3 f3 w3 => ?_)
    have fr3' : ∀ c, c < 35 + 6 * s ∨ 38 + 6 * s < c → M3 c = M c := fun c hc => by rw [f3 c (by omega) (by omega)]; exact fr2 c hc
    rw [List.nil_append] at w3
    have sp1 := x_spellPart (B := B) (K := gK B) (M := M3) (d := d) (Q := fun _ M4 => (if 0 ≤ (r : Int) ∧ (r : Int) < 16 then am_s am_P am_gg (d + 2) 39 [.inr (.inr 23), .inl (r : Int), .inl (w32 ((i : Int) + 1)), .inl (M4 4 (r : Int)), .inr (.inr (37 + 6 * s + 1))] M4 (fun r3 M5 => (if 0 ≤ (gsy B r : Int) ∧ (gsy B r : Int) < 8 then am_x am_P am_gg (d + 2) am_k41 0 Q 109 [some (.inr (.inr 23)), none, some (.inr (.inr (35 + 6 * s + 1))), some (.inr (.inr (37 + 6 * s + 1))), some (.inl ((r : Int))), some (.inl ((i : Int))), some (.inl ((gsy B r : Int)))] [.inr (.inr (am_rfF 32 (gsy B r : Int))), .inr (.inr (37 + 6 * s + 1))] M5 0 0 else False)) else False)) (l := xL B (gK B) (gX B) (gsy B r)) (L := 35 + 6 * s) (r := r) (f := 0) (n := i) hW hr (by omega) hL (xgb_eq hg (fun c _ _ => fr3' c (by omega))) (fun j _ hj h8 => ⟨md2 M3 fr3' _ h8 (hav j (by omega) (by omega) h8), by omega⟩) w3 (by omega) (fun M4 f4 w4 => ?_)
    · rw [Nat.zero_add] at sp1; exact sp1
    · have fr4 : ∀ c, c < 35 + 6 * s ∨ 38 + 6 * s < c → M4 c = M c := fun c hc => by rw [f4 c (by omega) (by omega)]; exact fr3' c hc
      have hg4 : xgb B M4 2 := xgb_eq hg (fun c _ _ => fr4 c (by omega))
      rw [xg_sz hg4 hr, w32_s (by omega)]
      rw [if_pos (by omega)]
      have wr4 : lw [] (37 + 6 * s) M4 := lw_lF hL hR (by omega) f4 (lw_lF hL hR (by omega) f3 w2)
      have sp2 := x_spellPart (B := B) (K := gK B) (M := M4) (d := d) (Q := fun _ M5 => (if 0 ≤ (gsy B r : Int) ∧ (gsy B r : Int) < 8 then am_x am_P am_gg (d + 2) am_k41 0 Q 109 [some (.inr (.inr 23)), none, some (.inr (.inr (35 + 6 * s + 1))), some (.inr (.inr (37 + 6 * s + 1))), some (.inl ((r : Int))), some (.inl ((i : Int))), some (.inl ((gsy B r : Int)))] [.inr (.inr (am_rfF 32 (gsy B r : Int))), .inr (.inr (37 + 6 * s + 1))] M5 0 0 else False)) (l := []) (L := 37 + 6 * s) (r := r) (f := i + 1) (n := gsz B r - (i + 1)) hW hr (by omega) hR hg4 (fun j h1 hj h8 => ⟨md2 M4 fr4 _ h8 (hav j (by omega) (by omega) h8), by omega⟩) wr4 (by show 0 + _ ≤ _; omega) (fun M5 f5 w5 => ?_)
      · rw [show i + 1 + (gsz B r - (i + 1)) = gsz B r by omega] at sp2; exact sp2
      · have fr5 : ∀ c, c < 35 + 6 * s ∨ 38 + 6 * s < c → M5 c = M c := fun c hc => by rw [f5 c (by omega) (by omega)]; exact fr4 c hc
        rw [List.nil_append] at w5
        rw [(rf_made _ hsy).2.2]
        rw [if_pos (by omega)]
        refine am_x_le [none, none, none, none, none, none, none] (am_lb_le _ _ trivial) ?_
        refine (g_41_109_sL_sL _ _ _ _ _).mpr (lt_isR hR ?_)
        have ra5 : lw (xRt B (gK B) (gX B) (gsy B r)) (37 + 6 * gsy B r) M5 := lw_eq ra (fr5 _ (by omega)) (fr5 _ (by omega))
        refine x_ltaddAll hR (ltB_m hsy).2.2 (by omega) w5 ra5 (by omega) (fun M6 f6 w6 => ?_)
        refine hQ M6 (fun c hc => by rw [f6 c (by omega) (by omega)]; exact fr5 c hc) ?_ ?_
        · rw [eL]
          exact lw_lF hR hL (by omega) f6 (lw_lF hR hL (by omega) f5 w4)
        · rw [eR]; exact w6
theorem chOK_cong {M' : (Nat → Int → Int)} (h : chOK B M) (e22 : ∀ i : Int, i = 5 ∨ i = 7 → M' 22 i = M 22 i) (e : ∀ c, 23 ≤ c → c ≤ 80 → M' c = M c) : chOK B M' := by
  obtain ⟨h1, h2, h3, ⟨n, o, h4, h5, h6⟩, ⟨m, q, h7, h8, h9⟩, h10, h11⟩ := h
  refine ⟨fun s hs => by rw [e 23 (by omega) (by omega)]; exact h1 s hs, fun s hs => by rw [e 24 (by omega) (by omega)]; exact h2 s hs, fun r hr ho => ?_, ⟨n, o, by rw [e22 5 (by omega)]; exact h4, by rw [e 25 (by omega) (by omega)]; exact h5, h6⟩, ⟨m, q, by rw [e22 7 (by omega)]; exact h7, by rw [e 26 (by omega) (by omega)]; exact h8, h9⟩, fun s hs hN => lw_eq (h10 s hs hN) (e _ (by omega) (by omega)) (e _ (by omega) (by omega)), fun s hs hN => ⟨lw_eq (h11 s hs hN).1 (e _ (by omega) (by omega)) (e _ (by omega) (by omega)), lw_eq (h11 s hs hN).2 (e _ (by omega) (by omega)) (e _ (by omega) (by omega))⟩⟩
  have := h3 r hr ho
  unfold kRow at this ⊢
  rw [e 27 (by omega) (by omega), e 28 (by omega) (by omega), e 29 (by omega) (by omega)]; exact this
theorem x_cheap (hW : gW B) (hg : xgb B M 2) (hold : M 22 1 = M 2 0 → chOK B M) (hQ : ∀ M', chF M M' → M' 22 1 = M' 2 0 → chOK B M' → Q 0 M') : am_s am_P am_gg (d + 5) 18 [.inr (.inr 23)] M Q := by
  have hn := hW.1
  have hp := gpos_ok hW
  have hy := (gK_ok hW).1
  have hx := (gX_ok hW).1
  refine (v_18_23 _ _ _).mpr ?_
  refine @p_if _ _ _ _ ?_ ?_
  · intro e
    exact hQ M (fun _ _ => rfl) e (hold e)
  intro _
  have hg0 : xgb B (am_up M 22 1 (M 2 0)) 2 := xgb_eq hg (fun c _ _ => up_nc _ _ _ _ (by omega))
  refine x_findYields hW hg0 (fun M1 f1 k1 rows => ?_)
  have hg1 := kF_g f1 hg0
  refine x_findContexts hW hg1 k1 rows (fun M2 f2 x2 => ?_)
  have k2 : kA 23 (gK B) M2 := xKF_K f2 k1
  refine x_order_23 k2 (fun M3 n o f3 o3 a3 j3 => ?_)
  have x3 : kA 24 (gX B) (am_up M3 22 5 (n : Int)) := fun s hs => by rw [up_nc _ _ _ _ (by decide), f3 24 (by decide)]; exact x2 s hs
  refine x_order_24 x3 (fun M4 m q f4 o4 a4 j4 => ?_)
  generalize hM5 : am_up M4 22 7 (m : Int) = M5
  have cel : ∀ c, c ≠ 22 → c ≠ 25 → c ≠ 26 → M5 c = M2 c := fun c a b e => by rw [← hM5, up_nc _ _ _ _ a, f4 c e, up_nc _ _ _ _ a, f3 c b]
  have cel1 : ∀ c, c ≠ 22 → c ≠ 23 → c ≠ 24 → c ≠ 25 → c ≠ 26 → c ≠ 27 → c ≠ 28 → c ≠ 29 → M5 c = M c := fun c a b e g h i j k => by rw [cel c a g h, f2 c e, f1 c b i j k, up_nc _ _ _ _ a]
  have hg5 : xgb B M5 2 := xgb_eq hg (fun c _ _ => cel1 c (by omega) (by omega) (by omega) (by omega) (by omega) (by omega) (by omega) (by omega))
  have kk : kA 23 (gK B) M5 := fun s hs => by rw [cel 23 (by decide) (by decide) (by decide)]; exact k2 s hs
  have xx : kA 24 (gX B) M5 := fun s hs => by rw [cel 24 (by decide) (by decide) (by decide)]; exact x2 s hs
  have rr : ∀ r, r < B 0 → gon B r = true → kRow B (gK B) M5 r := fun r hr ho => by
    have := xKF_R f2 (rows r hr ho)
    unfold kRow at this ⊢
    rw [cel 27 (by decide) (by decide) (by decide), cel 28 (by decide) (by decide) (by decide), cel 29 (by decide) (by decide) (by decide)]; exact this
  have c25 : M5 25 = M3 25 := by rw [← hM5, up_nc _ _ _ _ (by decide), f4 25 (by decide), up_nc _ _ _ _ (by decide)]
  have c26 : M5 26 = M4 26 := by rw [← hM5, up_nc _ _ _ _ (by decide)]
  have e5 : M5 22 5 = (n : Int) := by rw [← hM5, up_ni _ _ _ _ (by decide), f4 22 (by decide), up_eq]
  have e7 : M5 22 7 = (m : Int) := by rw [← hM5, up_eq]
  have e1 : M5 22 1 = M 2 0 := by rw [← hM5, up_ni _ _ _ _ (by decide), f4 22 (by decide), up_ni _ _ _ _ (by decide), f3 22 (by decide), f2 22 (by decide), f1 22 (by decide) (by decide) (by decide) (by decide), up_eq]
  -- the yields are spelled
  refine p_for (S := (Nat → Int → Int)) (X := fun i M => am_x am_P am_gg (d + 4) am_k18 0 Q 66 [some (.inr (.inr 23)), some (.inl (i))] [] M 0 0) n (fun a M6 => (∀ c, c < 33 ∨ 80 < c → M6 c = M5 c) ∧ ∀ i, i < a → mdW B (gK B) M6 (o i)) ?_ ?_ 0 M5 (by omega) ⟨fun _ _ => rfl, fun i hi => absurd hi (Nat.not_lt_zero i)⟩
  · intro M6 ⟨f6, w6⟩
    refine (h_18_66_23 _ _ _ _).mpr ?_
    rw [f6 22 (by omega), e5]
    rw [if_neg (by omega)]
    have md : ∀ g, g < 8 → gK B g ≠ NK → mdW B (gK B) M6 g := fun g hg8 hgN => by
      obtain ⟨i, hi, e⟩ := a3 g hg8 hgN
      rw [← e]; exact w6 i hi
    refine p_for (S := (Nat → Int → Int)) (X := fun i M => am_x am_P am_gg (d + 4) am_k18 0 Q 92 [some (.inr (.inr 23)), some (.inl (i))] [] M 0 0) m (fun a M7 => (∀ c, c < 33 ∨ 80 < c → M7 c = M5 c) ∧ (∀ g, g < 8 → gK B g ≠ NK → mdW B (gK B) M7 g) ∧ ∀ i, i < a → lw (xL B (gK B) (gX B) (q i)) (35 + 6 * q i) M7 ∧ lw (xRt B (gK B) (gX B) (q i)) (37 + 6 * q i) M7) ?_ ?_ 0 M6 (by omega) ⟨f6, md, fun i hi => absurd hi (Nat.not_lt_zero i)⟩
    · intro M7 ⟨f7, md7, w7⟩
      refine (h_18_92_23 _ _ _ _).mpr ?_
      rw [f7 22 (by omega), e7]
      rw [if_neg (by omega)]
      refine hQ M7 (fun c hc => ?_) ?_ ⟨fun s hs => by rw [f7 23 (by omega)]; exact kk s hs, fun s hs => by rw [f7 24 (by omega)]; exact xx s hs, fun r hr ho => ?_, ⟨n, o, by rw [f7 22 (by omega)]; exact e5, by rw [f7 25 (by omega), c25]; exact o3, a3, j3⟩, ⟨m, q, by rw [f7 22 (by omega)]; exact e7, by rw [f7 26 (by omega), c26]; exact o4, a4, j4⟩, md7, fun s hs hN => ?_⟩
      · rw [f7 c (by omega), cel1 c (by omega) (by omega) (by omega) (by omega) (by omega) (by omega) (by omega) (by omega)]
      · rw [f7 22 (by omega), e1, f7 2 (by omega), cel1 2 (by decide) (by decide) (by decide) (by decide) (by decide) (by decide) (by decide) (by decide)]
      · have := rr r hr ho
        unfold kRow at this ⊢
        rw [f7 27 (by omega), f7 28 (by omega), f7 29 (by omega)]; exact this
      · obtain ⟨i, hi, e⟩ := a4 s hs hN
        rw [← e]; exact w7 i hi
    · intro a M7 ha ⟨f7, md7, w7⟩ k
      obtain ⟨oq1, oq2, oq3⟩ := o4
      obtain ⟨qa, qb, qc⟩ := oq2 a ha
      refine (h_18_92_23 _ _ _ _).mpr ?_
      rw [f7 22 (by omega), e7, f7 26 (by omega), c26, qa]
      rw [if_pos (by omega)]
      rw [if_pos (by omega)]
      refine x_spellContext hW (xgb_eq hg5 (fun c _ _ => f7 c (by omega))) (fun s hs => by rw [f7 24 (by omega)]; exact xx s hs) md7 qb qc (fun g hg8 hlt => ?_) (fun M8 f8 w8a w8b => ?_)
      · have hgn : gX B g ≠ NK := by have := (gX_ok hW).2 _ qb; omega
        obtain ⟨i, hi, e⟩ := a4 g hg8 hgn
        have : i < a := by
          by_cases z : i < a
          · exact z
          · by_cases z2 : i = a
            · subst z2; rw [← e] at hlt; omega
            · have := oq3 a i (by omega) hi; rw [e] at this; omega
        rw [← e]; exact w7 i this
      · rw [w32_s (by omega)]
        refine k M8 ⟨fun c hc => by rw [f8 c (by omega)]; exact f7 c hc, fun g hg8 hgN => lw_eq (md7 g hg8 hgN) (f8 _ (by omega)) (f8 _ (by omega)), fun i hi => ?_⟩
        by_cases z : q i = q a
        · rw [z]; exact ⟨w8a, w8b⟩
        · have := (oq2 i (by omega)).2.1
          by_cases z2 : i = a
          · exact absurd (by rw [z2]) z
          · obtain ⟨u1, u2⟩ := w7 i (by omega)
            exact ⟨lw_eq u1 (f8 _ (by omega)) (f8 _ (by omega)), lw_eq u2 (f8 _ (by omega)) (f8 _ (by omega))⟩
  · intro a M6 ha ⟨f6, w6⟩ k
    obtain ⟨oq1, oq2, oq3⟩ := o3
    obtain ⟨qa, qb, qc⟩ := oq2 a ha
    refine (h_18_66_23 _ _ _ _).mpr ?_
    rw [f6 22 (by omega), e5, f6 25 (by omega), c25, qa]
    rw [if_pos (by omega)]
    rw [if_pos (by omega)]
    refine x_spellYield hW (xgb_eq hg5 (fun c _ _ => f6 c (by omega))) (fun s hs => by rw [f6 23 (by omega)]; exact kk s hs) qb qc (fun g hg8 hlt => ?_) (fun M7 f7 w7 => ?_)
    · have hgn : gK B g ≠ NK := by have := (gK_ok hW).2 _ qb; omega
      obtain ⟨i, hi, e⟩ := a3 g hg8 hgn
      have : i < a := by
        by_cases z : i < a
        · exact z
        · by_cases z2 : i = a
          · subst z2; rw [← e] at hlt; omega
          · have := oq3 a i (by omega) hi; rw [e] at this; omega
      rw [← e]; exact w6 i this
    · rw [w32_s (by omega)]
      refine k M7 ⟨fun c hc => by rw [f7 c (by omega) (by omega)]; exact f6 c hc, fun i hi => ?_⟩
      by_cases z : o i = o a
      · rw [z]; exact w7
      · have := (oq2 i (by omega)).2.1
        by_cases z2 : i = a
        · exact absurd (by rw [z2]) z
        · exact lw_eq (w6 i (by omega)) (f7 _ (by omega) (by omega)) (f7 _ (by omega) (by omega))
end S89
