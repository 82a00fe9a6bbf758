/-! the class's pick, and what it keeps -/
/-- the tree that was told last -/
def pkO (B : Nat → Nat) (M : (Nat → Int → Int)) : Prop := M 100 12 = -1 ∨ ∃ s n x : Nat, M 100 12 = (s : Int) ∧ M 100 13 = (n : Int) ∧ M 100 14 = (x : Int) ∧ lsI M (uT B s n x).1 (uT B s n x).2
def tcO (B : Nat → Nat) (M : (Nat → Int → Int)) : Prop := (∃ f : Nat, f ≤ 24 ∧ M 100 2 = (f : Int) ∧ cT B f M) ∧ pkO B M
def tcF (M M' : (Nat → Int → Int)) : Prop := ∀ c, c < 100 ∨ 106 < c → M' c = M c
section S9u
variable {B : Nat → Nat} {M M0 : (Nat → Int → Int)} {d : Nat} {Q : Int → (Nat → Int → Int) → Prop} {r i n s k c f x : Nat} {ro lt : List Nat} {st : List pit}
theorem p_wt_pos {pos : Nat → Nat} (hn : 1 ≤ n) : 1 ≤ p_wt pos c n := by unfold p_wt; split; omega; split <;> omega
/-- one opened up -/
theorem x_openUp (hg : xgb B M0 2) (hW : gW B) {pos : Nat → Nat} (hp : ∀ s, pos s < 8) (hu : ∀ r, r < B 0 → gsz B r = 1 → gsg B r 0 < 8 → pos (gsg B r 0) < pos (gsy B r)) (hT : cT B f M0) (hf : n ≤ f) (hv : pv B (c, n, x)) (hI : pkI B M0 M st ro lt) (hl : st.length < 62) (hro : (ro ++ (uc B c n x).1).length ≤ 400) (hlt : (lt ++ (uc B c n x).2).length ≤ 24)
    (hQ : ∀ M' st' ro' lt', pkI B M0 M' st' ro' lt' → p_wk pos st' < p_wt pos c n + p_wk pos st → ro' ++ (p_out B st').1 = ro ++ ((uc B c n x).1 ++ (p_out B st).1) → lt' ++ (p_out B st').2 = lt ++ ((uc B c n x).2 ++ (p_out B st).2) → (∀ t ∈ st', t ∈ st ∨ t.2.1 ≤ n) → Q 0 M') : am_s am_P am_gg (d + 4) 154 [.inr (.inr 101), .inl (c : Int), .inl (n : Int), .inr (.inl (x : Int))] M Q := by
  have hv0 := hv
  obtain ⟨v1, v2, v3, v4, v5⟩ := hv
  dsimp only at v1 v2 v3 v4 v5
  refine (v_154_101 _ _ _ _ _ _).mpr ?_
  rcases v1 with v1 | v1 | ⟨r, i, rfl, hr, ho, hi⟩
  · have e : uc B c n x = uT B c n x := by unfold uc; rw [if_pos (by omega)]
    rw [cv_sg (by omega)] at v4
    rw [e] at hQ hro hlt
    obtain ⟨c1, c2, c3, c4, c5⟩ := u_rule hW v1 v3 v4
    rw [uT_sym hW v1 v3 v4] at hQ hro hlt
    rw [if_pos (by omega)]
    refine x_pickRule hg hW hT hf v2 v3 v1 v5 v4 hI (by omega) ?_ (fun M' hI' => hQ M' _ _ _ hI' ?_ ?_ ?_ ?_)
    · rw [List.length_append, List.length_cons] at hro; omega
    · show p_wt pos _ n + p_wk pos st < p_wt pos c n + p_wk pos st
      dsimp only
      obtain ⟨p, hq⟩ : ∃ p, q_find (tm B c n) (B 0) 0 x = p := ⟨_, rfl⟩
      rw [hq] at c1 c2 c3 c4 ⊢
      have hz := hW.2.2.2.1 p.1 c1
      unfold rwc
      by_cases h1 : gsz B p.1 = 1
      · rw [if_pos h1]
        rcases hz.2.2.2.2 0 (by omega) with g | g
        · have := hu p.1 c1 h1 g
          rw [c3] at this
          unfold p_wt; rw [if_pos g, if_pos v1]; omega
        · unfold p_wt; rw [if_neg (by omega), if_pos (by omega), if_pos v1]; omega
      · rw [if_neg h1]; unfold p_wt; rw [if_neg (by omega), if_neg (by omega), if_pos v1]; omega
    · show _ ++ ((uc B _ n _).1 ++ _) = _
      rw [uc_rwc hW c1 c4, List.append_assoc]; rfl
    · show _ ++ ((uc B _ n _).2 ++ _) = _
      rw [uc_rwc hW c1 c4]
    · intro t ht
      rcases List.mem_cons.mp ht with e | e
      · rw [e]; exact Or.inr (Nat.le_refl _)
      · exact Or.inl e
  · have e : uc B c n x = ([], [c - 16]) := by unfold uc; rw [if_pos (by omega), uT_let (by omega)]
    rw [cv_sg (by omega), tT_let hW (by omega) v3] at v4
    rw [e] at hQ hro hlt
    have hlt : (lt ++ [c - 16]).length ≤ 24 := hlt
    rw [List.length_append] at hlt
    have hlt : lt.length + 1 ≤ 24 := hlt
    have l2 := hI.2.2.2.1.2.1
    rw [if_neg (by omega)]
    rw [if_pos (by omega)]
    rw [l2]
    rw [if_pos (by omega)]
    rw [if_pos (by omega)]
    rw [show w32 ((c : Int) - 16) = ((c - 16 : Nat) : Int) by rw [w32_i (by omega) (by omega)]; omega, w32_s (by omega)]
    refine hQ _ st ro (lt ++ [c - 16]) (lsI_let hI (by omega)) ?_ rfl (by rw [List.append_assoc]) (fun t ht => Or.inl ht)
    unfold p_wt; rw [if_neg (by omega), if_pos (by omega)]; omega
  · have hz := hW.2.2.2.1 r hr
    have hn16 := hW.1
    have e : uc B (32 + 4 * r + i) n x = uR B r i n x := by unfold uc; rw [if_neg (by omega), show (32 + 4 * r + i - 32) / 4 = r by omega, show (32 + 4 * r + i - 32) % 4 = i by omega]
    rw [cv_rest (by omega)] at v4
    rw [e] at hQ hro hlt
    obtain ⟨c1, c2, c3, c4, c5, c6, c7⟩ := u_cut (by omega) v4
    rw [uR_step (by omega)] at hQ
    rw [if_neg (by omega)]
    rw [if_neg (by omega)]
    rw [show w32 (((32 + 4 * r + i : Nat) : Int) - 32) = ((4 * r + i : Nat) : Int) by rw [w32_i (by omega) (by omega)]; omega, show Int.tdiv ((4 * r + i : Nat) : Int) 4 = (r : Int) from by rw [show (4 : Int) = ((4 : Nat) : Int) from rfl, tdiv_n]; omega, show Int.tmod ((4 * r + i : Nat) : Int) 4 = (i : Int) from by rw [show (4 : Int) = ((4 : Nat) : Int) from rfl, tmod_n]; omega, w32_i (by omega) (by omega), w32_i (by omega) (by omega)]
    refine x_pickCut hg hW hT hf v3 hr ho hi v5 v4 hI (by omega) (fun M' hI' => hQ M' _ _ _ hI' ?_ ?_ ?_ ?_)
    · show p_wt pos _ _ + (p_wt pos _ _ + p_wk pos st) < p_wt pos _ n + p_wk pos st
      dsimp only
      obtain ⟨p, hq⟩ : ∃ p, q_find (ctm B r i n) n 0 x = p := ⟨_, rfl⟩
      rw [hq] at c1 c7 ⊢
      have w0 : p_wt pos (32 + 4 * r + i) n = 18 * n - 17 := by unfold p_wt; rw [if_neg (by omega), if_neg (by omega)]
      have w1 : ∀ c k, 1 ≤ k → p_wt pos c k + 9 ≤ 18 * k := by
        intro c k hk
        have := hp c
        unfold p_wt; split
        · omega
        · split <;> omega
      have a1 := w1 (gsg B r i) (p.1 + 1) (by omega)
      have a2 := w1 (rsc B r i) (n - (p.1 + 1)) (by omega)
      omega
    · show _ ++ ((uc B _ _ _).1 ++ ((uc B _ _ _).1 ++ _)) = _
      rw [uc_rsc hW hr hi (Nat.mod_lt _ c4)]
      have : uc B (gsg B r i) ((q_find (ctm B r i n) n 0 x).1 + 1) ((q_find (ctm B r i n) n 0 x).2 / tR B r (i + 1) (n - ((q_find (ctm B r i n) n 0 x).1 + 1))) = uT B (gsg B r i) ((q_find (ctm B r i n) n 0 x).1 + 1) ((q_find (ctm B r i n) n 0 x).2 / tR B r (i + 1) (n - ((q_find (ctm B r i n) n 0 x).1 + 1))) := by
        have := sg_32 hW hr (show i < gsz B r by omega)
        unfold uc; rw [if_pos (by omega)]
      rw [this, List.append_assoc]
    · show _ ++ ((uc B _ _ _).2 ++ ((uc B _ _ _).2 ++ _)) = _
      rw [uc_rsc hW hr hi (Nat.mod_lt _ c4)]
      have : uc B (gsg B r i) ((q_find (ctm B r i n) n 0 x).1 + 1) ((q_find (ctm B r i n) n 0 x).2 / tR B r (i + 1) (n - ((q_find (ctm B r i n) n 0 x).1 + 1))) = uT B (gsg B r i) ((q_find (ctm B r i n) n 0 x).1 + 1) ((q_find (ctm B r i n) n 0 x).2 / tR B r (i + 1) (n - ((q_find (ctm B r i n) n 0 x).1 + 1))) := by
        have := sg_32 hW hr (show i < gsz B r by omega)
        unfold uc; rw [if_pos (by omega)]
      rw [this, List.append_assoc]
    · intro t ht
      rcases List.mem_cons.mp ht with e | ht
      · rw [e]; exact Or.inr (by dsimp only; omega)
      rcases List.mem_cons.mp ht with e | ht
      · rw [e]; exact Or.inr (by dsimp only; omega)
      · exact Or.inl ht
/-- the pile is opened up to its end -/
theorem x_pile (hg : xgb B M0 2) (hW : gW B) (hT : cT B f M0) {RO LT : List Nat} (hRO : RO.length ≤ 400) (hLT : LT.length ≤ 24) (hQ : ∀ M', pkF M0 M' → lsI M' RO LT → Q 0 M') : ∀ (pos : Nat → Nat), (∀ s, pos s < 8) → (∀ r, r < B 0 → gsz B r = 1 → gsg B r 0 < 8 → pos (gsg B r 0) < pos (gsy B r)) → ∀ w k st ro lt (M : (Nat → Int → Int)), pkI B M0 M st ro lt → p_wk pos st ≤ w → k + w ≤ 1600 → ro ++ (p_out B st).1 = RO → lt ++ (p_out B st).2 = LT → (∀ t ∈ st, t.2.1 ≤ f) → am_x am_P am_gg (d + 4) am_k152 0 Q 66 [some (.inr (.inr 101)), none, none, none, some (.inl ((k : Int)))] [] M 0 0 := by
  intro pos hp hu w
  induction w with
  | zero =>
    intro k st ro lt M hI hw hk h1 h2 h3
    match st, hI, hw, h1, h2 with
    | [], hI, _, h1, h2 =>
      refine (h_152_66_101 _ _ _ _).mpr ?_
      have h7 := hI.2.1
      have h7 : M 100 7 = 0 := h7
      have hQ := hQ M hI.1 (by rw [← h1, ← h2]; show lsI M (ro ++ []) (lt ++ []); rw [List.append_nil, List.append_nil]; exact hI.2.2.2.1)
      rw [h7]
      refine @p_if _ _ _ _ ?_ ?_
      · intro q; rw [if_neg (by omega)]; exact hQ
      · intro q; exact hQ
    | (c, n, x) :: l, hI, hw, _, _ =>
      have := p_wt_pos (pos := pos) (c := c) hI.2.2.2.2.1.2.1
      have hw : p_wt pos c n + p_wk pos l ≤ 0 := hw
      dsimp only at this
      omega
  | succ w ih =>
    intro k st ro lt M hI hw hk h1 h2 h3
    match st, hI, hw, h1, h2, h3 with
    | [], hI, _, h1, h2, _ =>
      refine (h_152_66_101 _ _ _ _).mpr ?_
      have h7 := hI.2.1
      have h7 : M 100 7 = 0 := h7
      have hQ := hQ M hI.1 (by rw [← h1, ← h2]; show lsI M (ro ++ []) (lt ++ []); rw [List.append_nil, List.append_nil]; exact hI.2.2.2.1)
      rw [h7]
      refine @p_if _ _ _ _ ?_ ?_
      · intro q; rw [if_neg (by omega)]; exact hQ
      · intro q; exact hQ
    | (c, n, x) :: l, hI, hw, h1, h2, h3 =>
      have hw : p_wt pos c n + p_wk pos l ≤ w + 1 := hw
      have h1 : ro ++ ((uc B c n x).1 ++ (p_out B l).1) = RO := h1
      have h2 : lt ++ ((uc B c n x).2 ++ (p_out B l).2) = LT := h2
      obtain ⟨hF, h7, hst, hls, hv, ha⟩ := hI
      have h7 : M 100 7 = ((l.length + 1 : Nat) : Int) := h7
      have hll := p_len hW l ha
      have e1 := congrArg List.length h1
      have e2 := congrArg List.length h2
      rw [List.length_append, List.length_append] at e1 e2
      have hc1 := (uc_len hW hv).1
      have hv2 := hv.2.1
      dsimp only at hv2
      obtain ⟨t1, t2, t3, hst⟩ := hst
      dsimp only at t1 t2 t3
      refine (h_152_66_101 _ _ _ _).mpr ?_
      rw [h7, show w32 (((l.length + 1 : Nat) : Int) - 1) = (l.length : Int) by rw [w32_i (by omega) (by omega)]; omega]
      rw [if_pos (by omega)]
      rw [if_pos (by omega)]
      rw [if_pos (by omega)]
      rw [if_pos (by omega)]
      rw [if_pos (by omega)]
      rw [t1, t2, t3, w32_s (by omega)]
      refine x_openUp hg hW hp hu hT (h3 _ (List.mem_cons_self ..)) hv (M := am_up M 100 7 (l.length : Int)) (st := l) (ro := ro) (lt := lt) ⟨⟨fun a h => ?_, fun j a1 a2 a3 => ?_⟩, ?_, ?_, ⟨?_, ?_, fun j hj => ?_, fun j hj => ?_⟩, ha⟩ (by omega) ?_ ?_ (fun M' st' ro' lt' b1 b2 b3 b4 b5 => ?_)
      · rw [up_nc _ _ _ _ (by omega)]; exact hF.1 a h
      · rw [up_ni _ _ _ _ a1]; exact hF.2 j a1 a2 a3
      · rw [up_eq]
      · exact stk_eq (fun j hj => by rw [up_nc _ _ _ _ (by decide), up_nc _ _ _ _ (by decide), up_nc _ _ _ _ (by decide)]; exact ⟨rfl, rfl, rfl⟩) hst
      · rw [up_ni _ _ _ _ (by decide)]; exact hls.1
      · rw [up_ni _ _ _ _ (by decide)]; exact hls.2.1
      · rw [up_nc _ _ _ _ (by decide)]; exact hls.2.2.1 j hj
      · rw [up_nc _ _ _ _ (by decide)]; exact hls.2.2.2 j hj
      · rw [List.length_append]; omega
      · rw [List.length_append]; omega
      · refine ih (k + 1) st' ro' lt' M' b1 (by omega) (by omega) (b3.trans h1) (b4.trans h2) (fun t ht => ?_)
        rcases b5 t ht with q | q
        · exact h3 t (List.mem_cons_of_mem _ q)
        · exact Nat.le_trans q (h3 _ (List.mem_cons_self ..))
theorem x_pick (hg : xgb B M 2) (hW : gW B) (hT : cT B f M) (hf : n ≤ f) (h1 : 1 ≤ n) (hn : n ≤ 24) (hs : s < 8) (hx3 : x < 4294967296) (hx : x < tT B s n) (hpk : pkO B M) (hQ : ∀ M', tcF M M' → M' 101 = M 101 → (∀ i : Int, i < 3 → M' 100 i = M 100 i) → pkO B M' → lsI M' (uT B s n x).1 (uT B s n x).2 → Q 0 M') : am_s am_P am_gg (d + 5) 152 [.inr (.inr 101), .inl (s : Int), .inl (n : Int), .inl (x : Int)] M Q := by
  have hlen := uT_len hW (Or.inl hs) hn hx
  obtain ⟨pos, hp, hu⟩ := hW.2.2.2.2
  have anew : am_s am_P am_gg (d + 4) 153 [.inr (.inr 101), .inl (s : Int), .inl (n : Int), .inr (.inl (x : Int))] (am_up (am_up (am_up (am_up (am_up (am_up M 100 12 (s : Int)) 100 13 (n : Int)) 100 14 (x : Int)) 100 9 0) 100 11 0) 100 7 0) (fun r1 M1 => am_x am_P am_gg (d + 4) am_k152 0 Q 66 [some (.inr (.inr 101)), some (.inl ((s : Int))), some (.inl ((n : Int))), some (.inl ((x : Int))), some (.inl (0))] [] M1 0 0) := by
    obtain ⟨M0, hM0⟩ : ∃ M0, M0 = (am_up (am_up (am_up (am_up (am_up (am_up M 100 12 (s : Int)) 100 13 (n : Int)) 100 14 (x : Int)) 100 9 0) 100 11 0) 100 7 0) := ⟨_, rfl⟩
    have hc : ∀ c, c ≠ 100 → M0 c = M c := fun c h => by rw [hM0, up_nc _ _ _ _ h, up_nc _ _ _ _ h, up_nc _ _ _ _ h, up_nc _ _ _ _ h, up_nc _ _ _ _ h, up_nc _ _ _ _ h]
    have hg0 : xgb B M0 2 := xgb_eq hg (fun c h1 h2 => hc c (by omega))
    have hT0 : cT B f M0 := by
      unfold cT cL tbl at hT ⊢
      rw [hc 101 (by decide)]; exact hT
    have e12 : M0 100 12 = (s : Int) := by rw [hM0, up_ni _ _ _ _ (by decide), up_ni _ _ _ _ (by decide), up_ni _ _ _ _ (by decide), up_ni _ _ _ _ (by decide), up_ni _ _ _ _ (by decide), up_eq]
    have e13 : M0 100 13 = (n : Int) := by rw [hM0, up_ni _ _ _ _ (by decide), up_ni _ _ _ _ (by decide), up_ni _ _ _ _ (by decide), up_ni _ _ _ _ (by decide), up_eq]
    have e14 : M0 100 14 = (x : Int) := by rw [hM0, up_ni _ _ _ _ (by decide), up_ni _ _ _ _ (by decide), up_ni _ _ _ _ (by decide), up_eq]
    have e9 : M0 100 9 = 0 := by rw [hM0, up_ni _ _ _ _ (by decide), up_ni _ _ _ _ (by decide), up_eq]
    have e11 : M0 100 11 = 0 := by rw [hM0, up_ni _ _ _ _ (by decide), up_eq]
    have e7 : M0 100 7 = 0 := by rw [hM0, up_eq]
    have elo : ∀ i : Int, i < 3 → M0 100 i = M 100 i := fun i hi => by rw [hM0, up_ni _ _ _ _ (by omega), up_ni _ _ _ _ (by omega), up_ni _ _ _ _ (by omega), up_ni _ _ _ _ (by omega), up_ni _ _ _ _ (by omega), up_ni _ _ _ _ (by omega)]
    rw [← hM0]
    clear hM0
    refine x_push (B := B) (M0 := M0) (st := []) (ro := []) (lt := []) ⟨pkF_rf, e7, trivial, ⟨e9, e11, fun j h => absurd h (Nat.not_lt_zero j), fun j h => absurd h (Nat.not_lt_zero j)⟩, trivial⟩ ⟨Or.inl hs, h1, hn, by dsimp only; rw [cv_sg (by omega)]; exact hx, hx3⟩ (by decide) (fun M1 hI1 => ?_)
    refine am_x_le [some (.inr (.inr 101)), none, none, none, some (.inl (((0 : Nat) : Int)))] (am_lb_le _ _ ⟨rfl, rfl, trivial⟩) ?_
    have euc : uc B s n x = uT B s n x := by unfold uc; rw [if_pos (by omega)]
    refine x_pile hg0 hW hT0 (RO := (uT B s n x).1) (LT := (uT B s n x).2) (by omega) (by omega) (fun M2 hF2 hl2 => ?_) pos hp hu 1600 0 _ _ _ M1 hI1 ?_ (by omega) ?_ ?_ ?_
    · refine hQ M2 (fun c h => ?_) ?_ (fun i hi => ?_) (Or.inr ⟨s, n, x, ?_, ?_, ?_, hl2⟩) hl2
      · rw [hF2.1 c (by omega)]; exact hc c (by omega)
      · rw [hF2.1 101 (by omega)]; exact hc 101 (by decide)
      · rw [hF2.2 i (by omega) (by omega) (by omega)]; exact elo i hi
      · rw [hF2.2 _ (by decide) (by decide) (by decide)]; exact e12
      · rw [hF2.2 _ (by decide) (by decide) (by decide)]; exact e13
      · rw [hF2.2 _ (by decide) (by decide) (by decide)]; exact e14
    · show p_wt pos s n + 0 ≤ 1600
      have := hp s
      unfold p_wt; rw [if_pos hs]; omega
    · show [] ++ ((uc B s n x).1 ++ []) = _; rw [euc, List.append_nil]; rfl
    · show [] ++ ((uc B s n x).2 ++ []) = _; rw [euc, List.append_nil]; rfl
    · intro t ht
      rcases List.mem_cons.mp ht with e | ht
      · rw [e]; exact hf
      · cases ht
  refine (v_152_101 _ _ _ _ _ _).mpr ?_
  refine @p_if _ _ _ _ ?_ ?_
  · intro a1
    refine @p_if _ _ _ _ ?_ ?_
    · intro a2
      refine @p_if _ _ _ _ ?_ ?_
      · intro a3
        rcases hpk with q | ⟨s', n', x', b1, b2, b3, b4⟩
        · omega
        · have e1 : s' = s := by omega
          have e2 : n' = n := by omega
          have e3 : x' = x := by omega
          subst e1; subst e2; subst e3
          exact hQ M (fun _ _ => rfl) rfl (fun _ _ => rfl) (Or.inr ⟨s', n', x', b1, b2, b3, b4⟩) b4
      · intro _; exact anew
    · intro _; exact anew
  · intro _; exact anew
/-- made ready up to a length -/
theorem x_prepTrees (hg : xgb B M 2) (hW : gW B) (hL : cLet M) (hO : M 100 1 = M 2 0 → tcO B M) (h1 : 1 ≤ n) (hn : n ≤ 24) (hQ : ∀ M' f, tcF M M' → cLet M' → M' 100 1 = M' 2 0 → f ≤ 24 → n ≤ f → M' 100 2 = (f : Int) → cT B f M' → pkO B M' → Q 0 M') : am_s am_P am_gg (d + 5) 144 [.inr (.inr 101), .inl (n : Int)] M Q := by
  refine (v_144_101 _ _ _ _).mpr ?_
  have loop : ∀ (j f : Nat) (M1 : (Nat → Int → Int)), f + j = 24 → tcF M M1 → cLet M1 → M1 100 1 = M1 2 0 → M1 100 2 = (f : Int) → cT B f M1 → pkO B M1 → am_x am_P am_gg (d + 4) am_k144 0 Q 42 [some (.inr (.inr 101)), some (.inl ((n : Int))), some (.inl (((f + 1 : Nat) : Int)))] [] M1 0 0 := by
    intro j
    induction j with
    | zero =>
      intro f M1 hf hF hL1 a1 a2 hT hpk
      refine (h_144_42_101 _ _ _ _ _).mpr ?_
      rw [if_pos (by omega)]
      exact hQ M1 f hF hL1 a1 (by omega) (by omega) a2 hT hpk
    | succ j ih =>
      intro f M1 hf hF hL1 a1 a2 hT hpk
      refine (h_144_42_101 _ _ _ _ _).mpr ?_
      refine @p_if _ _ _ _ ?_ ?_
      · intro h; exact hQ M1 f hF hL1 a1 (by omega) (by omega) a2 hT hpk
      intro h
      rw [if_neg (by omega)]
      refine x_fillLength hW (by omega) (by omega) (xgb_eq hg (fun c h1 h2 => hF c (by omega))) hL1 (by rw [Nat.add_sub_cancel]; exact hT) (fun M2 hF2 hL2 hT2 => ?_)
      rw [w32_s (by omega)]
      refine ih (f + 1) _ (by omega) (fun c hc => ?_) (fun l n a b c => ?_) ?_ ?_ ?_ ?_
      · rw [up_nc _ _ _ _ (by omega), hF2 c (by omega)]; exact hF c hc
      · rw [up_nc _ _ _ _ (by decide)]; exact hL2 l n a b c
      · rw [up_ni _ _ _ _ (by decide), up_nc _ _ _ _ (by decide), hF2 100 (by decide), hF2 2 (by decide)]; exact a1
      · rw [up_eq]
      · unfold cT cL tbl at hT2 ⊢; rw [up_nc _ _ _ _ (by decide)]; exact hT2
      · unfold pkO lsI at hpk ⊢
        rw [up_ni _ _ _ _ (by decide), up_ni _ _ _ _ (by decide), up_ni _ _ _ _ (by decide), up_ni _ _ _ _ (by decide), up_ni _ _ _ _ (by decide), up_nc _ _ _ _ (by decide), up_nc _ _ _ _ (by decide), hF2 100 (by decide), hF2 105 (by decide), hF2 106 (by decide)]
        exact hpk
  refine @p_if _ _ _ _ ?_ ?_
  · intro e
    obtain ⟨⟨f, f1, f2, f3⟩, hpk⟩ := hO e
    rw [f2, w32_s (by omega)]
    exact loop (24 - f) f M (by omega) (fun _ _ => rfl) hL e f2 f3 hpk
  · intro e
    refine loop 24 0 _ (by omega) (fun c hc => ?_) (fun l n a b c => ?_) ?_ ?_ ?_ (Or.inl ?_)
    · rw [up_nc _ _ _ _ (by omega), up_nc _ _ _ _ (by omega), up_nc _ _ _ _ (by omega)]
    · rw [up_nc _ _ _ _ (by decide), up_nc _ _ _ _ (by decide), up_nc _ _ _ _ (by decide)]; exact hL l n a b c
    · rw [up_ni _ _ _ _ (by decide), up_ni _ _ _ _ (by decide), up_eq, up_nc _ _ _ _ (by decide), up_nc _ _ _ _ (by decide), up_nc _ _ _ _ (by decide)]
    · rw [up_ni _ _ _ _ (by decide), up_eq]; rfl
    · refine ⟨cL_of hW (fun l n a b c => ?_), fun m a b => by omega⟩
      rw [up_nc _ _ _ _ (by decide), up_nc _ _ _ _ (by decide), up_nc _ _ _ _ (by decide)]; exact hL l n a b c
    · rw [up_eq]
end S9u
