/-! the class builds the own tree, node by node -/
section Sa6
variable {B x o : Nat → Nat} {a n r i j s k c e f d m N : Nat} {T : Nat → Nat × Nat} {M M0 : (Nat → Int → Int)} {Q : Int → (Nat → Int → Int) → Prop} {st nl : List nd}
theorem nd_snoc (l : List nd) (v : nd) (j : Nat) (hj : j < (l ++ [v]).length) : (l ++ [v]).getD j (0, 0, 0) = if j = l.length then v else l.getD j (0, 0, 0) := by
  rw [List.length_append] at hj
  have hj : j < l.length + 1 := hj
  by_cases e : j = l.length
  · rw [if_pos e, e, List.getD_eq_getElem?_getD, List.getElem?_append_right (Nat.le_refl _), Nat.sub_self]; rfl
  · rw [if_neg e, List.getD_eq_getElem?_getD, List.getElem?_append_left (by omega), ← List.getD_eq_getElem?_getD]
theorem x_pushKids (hW : gW B) (hg : xgb B M0 2) (hr : gUsd B r) (hN : a + m ≤ N) (hN16 : N ≤ 16) (h : 0 < wR B x r 0 a m) (hk : k < 256) (h14 : M0 108 14 = (k : Int)) (hct : ∀ i : Nat, i ≤ gsz B r → M0 116 ((5 * k + i : Nat) : Int) = (ctp B x r a m i : Int)) (hv : vld B x N st) (ht : m + tot st ≤ 16) (hQ : ∀ M', (∀ c, c ≠ 108 → c ≠ 117 → M' c = M0 c) → (∀ i : Int, i ≠ 19 → M' 108 i = M0 108 i) → M' 108 19 = ((kdn B x r a m (gsz B r) ++ st).length : Int) → ostk M' (kdn B x r a m (gsz B r) ++ st) → Q 0 (am_up M' 108 14 ((k + 1 : Nat) : Int))) : ∀ i (M : (Nat → Int → Int)), i ≤ gsz B r → (∀ c, c ≠ 108 → c ≠ 117 → M c = M0 c) → (∀ i : Int, i ≠ 19 → M 108 i = M0 108 i) → M 108 19 = ((kdn B x r a m (gsz B r - i) ++ st).length : Int) → ostk M (kdn B x r a m (gsz B r - i) ++ st) → am_x am_P am_gg (d + 1) am_k15 0 Q 178 [some (.inr (.inr 109)), none, none, none, some (.inl ((r : Int))), none, none, some (.inl ((i : Int) - 1)), none] [] M 0 0 := by
  have hz := hW.2.2.2.1 r hr.1
  intro i
  induction i with
  | zero =>
    intro M _ h1 h2 h3 h4
    refine (h_15_178_109 _ _ _ _ _).mpr ?_
    rw [if_pos (by omega), h2 14 (by decide), h14, w32_s (by omega)]
    exact hQ M h1 h2 h3 h4
  | succ i ih =>
    intro M hi h1 h2 h3 h4
    have hg1 : xgb B M 2 := xgb_eq hg (fun c g1 g2 => h1 c (by omega) (by omega))
    obtain ⟨p1, p2, p3⟩ := ctp_ok h i (by omega)
    obtain ⟨c1, c2, c3, c4, c5, c6⟩ := cu_ok (by omega) p3
    have hk1 := kdn_ok hW hr h hN (gsz B r - (i + 1)) (i + 1) (by omega)
    have p4 := ctp_ok h (i + 1) hi
    have hks := kdn_s (B := B) (x := x) (r := r) (a := a) (n := m) (i := i) (j := gsz B r - (i + 1)) (by omega)
    rw [show gsz B r - (i + 1) + 1 = gsz B r - i by omega] at hks
    have hlen : (kdn B x r a m (gsz B r - (i + 1)) ++ st).length ≤ 16 := by
      have := tot_len (vld_app hk1.2.1 hv)
      rw [tot_app] at this
      omega
    refine (h_15_178_109 _ _ _ _ _).mpr ?_
    rw [show ((i + 1 : Nat) : Int) - 1 = (i : Int) by omega, if_neg (by omega)]
    refine x_signAt hg1 hW hr.1 (by omega) ?_
    rw [show w32 ((i : Int) + (-1)) = (i : Int) - 1 by rw [w32_i (by omega) (by omega)]; omega, w32_s (by omega)]
    have e14 : M 108 14 = (k : Int) := by rw [h2 14 (by decide)]; exact h14
    refine @p_if _ _ _ _ ?_ ?_
    · intro g8
      have g8 : gsg B r i < 8 := by omega
      rw [if_pos g8] at hks
      refine x_signAt hg1 hW hr.1 (by omega) ?_
      rw [e14]
      refine x_cutOf (c := ctp B x r a m i) hk (by omega) (by rw [h1 116 (by decide) (by decide)]; exact hct i (by omega)) ?_
      rw [e14]
      refine x_cutOf (c := ctp B x r a m (i + 1)) hk (by omega) (by rw [h1 116 (by decide) (by decide)]; exact hct (i + 1) (by omega)) ?_
      rw [ctp_s]
      refine x_opush h3 (by omega) g8 (by omega) (by omega) h4 (fun M2 q1 q2 q3 q4 => ?_)
      refine ih M2 (by omega) (fun c g1 g2 => (q3 c g1 g2).trans (h1 c g1 g2)) (fun i hi => (q4 i hi).trans (h2 i hi)) ?_ ?_
      · rw [q1, hks]; rfl
      · rw [hks]; exact q2
    · intro g8
      rw [if_neg (show ¬ gsg B r i < 8 by omega)] at hks
      exact ih M (by omega) h1 h2 (by rw [hks]; exact h3) (by rw [hks]; exact h4)
theorem x_buildNode (hW : gW B) (hg : xgb B M 2) (hu : bs (M 16 5) (gUsd B)) (hC : chT B x o N f n T M) (hs : s < 8) (hc : gRch B s) (h1 : 1 ≤ m) (hN : a + m ≤ N) (h : 0 < wT B x s a m) (hv : vld B x N st) (ht : m + tot st ≤ 16) (hnl : nl.length < 256) (hnd : ndI B x nl M) (h19 : M 108 19 = (st.length : Int)) (hst : ostk M st) (hQ : ∀ M', bdF M M' → M' 108 7 = M 108 7 → ndI B x (nl ++ [(ru B x s a m, a, m)]) M' → M' 108 19 = ((kdn B x (ru B x s a m) a m (gsz B (ru B x s a m)) ++ st).length : Int) → ostk M' (kdn B x (ru B x s a m) a m (gsz B (ru B x s a m)) ++ st) → Q 0 M') : am_s am_P am_gg (d + 3) 15 [.inr (.inr 109), .inl (s : Int), .inl (a : Int), .inl ((a + m : Nat) : Int)] M Q := by
  have hf := hC.2.2.2.2.2.1
  have hNf := hC.2.2.2.2.1
  have hn16 := hW.1
  obtain ⟨c1, c2, c3, c4, c5⟩ := ru_ok hW hs (by omega) h
  have hus : gUsd B (ru B x s a m) := wR_usd c1 c2 (by rw [c3]; exact hc) c4
  have hz := hW.2.2.2.1 _ c1
  refine (v_15_109 _ _ _ _ _ _).mpr ?_
  refine x_leastRule hW hg hu hs hc h1 (by omega) h (hC.2.2.2.2.2.2.2.2.1 _ (by omega) (by omega)) ?_
  have h14 := hnd.1
  rw [if_neg (by omega), h14, if_pos (by omega), if_pos (by omega), show w32 ((nl.length : Int) * 5) = ((5 * nl.length : Nat) : Int) by rw [w32_i (by omega) (by omega)]; omega, if_pos (by omega), xg_sz hg c1, show w32 ((gsz B (ru B x s a m) : Int) - 1) = ((gsz B (ru B x s a m) - 1 : Nat) : Int) by rw [w32_i (by omega) (by omega)]; omega]
  revert c1 c2 c3 c4 c5 hus hz hQ
  generalize ru B x s a m = r
  intro hQ c1 c2 c3 c4 c5 hus hz
  refine am_x_le [some (.inr (.inr 109)), none, none, some (.inl (((a + m : Nat) : Int))), some (.inl ((r : Int))), some (.inl (((5 * nl.length : Nat) : Int))), some (.inl (((gsz B r - 1 : Nat) : Int))), some (.inl (((0 : Nat) : Int))), none] (am_lb_le _ _ ⟨rfl, rfl, rfl, rfl, rfl, rfl, trivial⟩) ?_
  refine x_nodeCuts (x := x) (o := o) (f := f) (n := n) (T := T) (N := N) hW (xgb_eq hg (fun c g1 g2 => up_nc _ _ _ _ (by omega))) (chT_bd hC ⟨fun c g1 g2 => up_nc _ _ _ _ (by omega), fun i _ _ _ _ => by rw [up_nc _ _ _ _ (by decide)]⟩) hus hN c4 hnl (fun M1 q1 q2 q3 => ?_) (up_eq _ _ _ _)
  refine (h_15_59_109 _ _ _ _ _ _ _ _).mpr ?_
  have e14 : M1 108 14 = (nl.length : Int) := by rw [q1 108 (by decide), up_nc _ _ _ _ (by decide)]; exact h14
  rw [if_neg (by omega), show w32 (w32 (((5 * nl.length : Nat) : Int) + ((gsz B r - 1 : Nat) : Int)) + 1) = ((5 * nl.length + gsz B r : Nat) : Int) by rw [show w32 (((5 * nl.length : Nat) : Int) + ((gsz B r - 1 : Nat) : Int)) = ((5 * nl.length + (gsz B r - 1) : Nat) : Int) by rw [w32_i (by omega) (by omega)]; omega, w32_i (by omega) (by omega)]; omega, if_pos (by omega), e14, if_pos (by omega)]
  refine am_x_le [some (.inr (.inr 109)), none, none, none, some (.inl ((r : Int))), none, none, some (.inl (((gsz B r - 1 : Nat) : Int))), none] (am_lb_le _ _ ⟨rfl, rfl, rfl, trivial⟩) ?_
  rw [show ((gsz B r - 1 : Nat) : Int) = (gsz B r : Int) - 1 by omega]
  have eo : ∀ c, c ≠ 108 → c ≠ 115 → c ≠ 116 → M1 c = M c := fun c g1 g2 g3 => by rw [q1 c g3, up_nc _ _ _ _ g3]
  have e108 : ∀ i : Int, M1 108 i = M 108 i := fun i => by rw [q1 108 (by decide), up_nc _ _ _ _ (by decide)]
  refine x_pushKids (x := x) (N := N) (st := st) (k := nl.length) (M0 := am_up (am_up (am_up M1 116 ((5 * nl.length + gsz B r : Nat) : Int) ((a + m : Nat) : Int)) 115 (nl.length : Int) (r : Int)) 108 17 (i_or (M1 108 17) (i_shl 1 (r : Int)))) hW (xgb_eq hg (fun c g1 g2 => by rw [up_nc _ _ _ _ (by omega), up_nc _ _ _ _ (by omega), up_nc _ _ _ _ (by omega)]; exact eo c (by omega) (by omega) (by omega))) hus hN (by omega) c4 hnl ?_ (fun i hi => ?_) hv ht (fun M2 p1 p2 p3 p4 => ?_) (gsz B r) _ (Nat.le_refl _) (fun _ _ _ => rfl) (fun _ _ => rfl) ?_ ?_
  · rw [up_ni _ _ _ _ (by decide), up_nc _ _ _ _ (by decide), up_nc _ _ _ _ (by decide)]; exact e14
  · rw [up_nc _ _ _ _ (by decide), up_nc _ _ _ _ (by decide), up_ci]
    by_cases q : i = gsz B r
    · rw [if_pos (by omega), q, ctp_end c4]
    · rw [if_neg (by omega)]; exact q3 i (by omega)
  · have b116 : ∀ j : Int, j < ((5 * nl.length : Nat) : Int) → M2 116 j = M 116 j := fun j hj => by
      rw [p1 116 (by decide) (by decide), up_nc _ _ _ _ (by decide), up_nc _ _ _ _ (by decide), up_ni _ _ _ _ (by omega), q2 j (by omega), up_ni _ _ _ _ (by omega)]
    refine hQ _ ⟨fun c g1 g2 => ?_, fun i g1 g2 g3 g4 => ?_⟩ ?_ ⟨?_, fun j hj => ?_, ?_⟩ ?_ ?_
    · rw [up_nc _ _ _ _ g1, p1 c g1 (by omega), up_nc _ _ _ _ g1, up_nc _ _ _ _ (by omega), up_nc _ _ _ _ (by omega)]; exact eo c g1 (by omega) (by omega)
    · rw [up_ni _ _ _ _ g2, p2 i g4, up_ni _ _ _ _ g3, up_nc _ _ _ _ (by decide), up_nc _ _ _ _ (by decide)]; exact e108 i
    · rw [up_ni _ _ _ _ (by decide), p2 7 (by decide), up_ni _ _ _ _ (by decide), up_nc _ _ _ _ (by decide), up_nc _ _ _ _ (by decide)]; exact e108 7
    · rw [up_eq, List.length_append]; rfl
    · rw [nd_snoc _ _ _ hj, up_nc _ _ _ _ (by decide), up_nc _ _ _ _ (by decide)]
      rw [List.length_append] at hj
      have hj : j < nl.length + 1 := hj
      by_cases e : j = nl.length
      · rw [if_pos e, e]
        dsimp only
        refine ⟨c1, ?_, fun i hi => ?_⟩
        · rw [p1 115 (by decide) (by decide), up_nc _ _ _ _ (by decide), up_eq]
        · rw [p1 116 (by decide) (by decide), up_nc _ _ _ _ (by decide), up_nc _ _ _ _ (by decide), up_ci]
          by_cases q : i = gsz B r
          · rw [if_pos (by omega), q, ctp_end c4]
          · rw [if_neg (by omega)]; exact q3 i (by omega)
      · rw [if_neg e]
        have q := hnd.2.1 j (by omega)
        have hz5 := (hW.2.2.2.1 _ q.1).2.2.1
        refine ⟨q.1, ?_, fun i hi => ?_⟩
        · rw [p1 115 (by decide) (by decide), up_nc _ _ _ _ (by decide), up_ni _ _ _ _ (by omega), up_nc _ _ _ _ (by decide), q1 115 (by decide), up_nc _ _ _ _ (by decide)]; exact q.2.1
        · rw [b116 _ (by omega)]; exact q.2.2 i hi
    · rw [up_ni _ _ _ _ (by decide), p2 17 (by decide), up_eq, e108 17]
      refine bs_cong (bs_add hnd.2.2 (by omega)) (fun q => ?_)
      unfold nds
      rw [List.map_append, List.mem_append]
      constructor
      · rintro (z | z)
        · exact Or.inl z
        · exact Or.inr (by rw [z]; exact List.mem_singleton.mpr rfl)
      · rintro (z | z)
        · exact Or.inl z
        · exact Or.inr (List.mem_singleton.mp z)
    · rw [up_ni _ _ _ _ (by decide)]; exact p3
    · exact ostk_eq (fun j hj => by rw [up_nc _ _ _ _ (by decide)]) p4
  · rw [Nat.sub_self, up_ni _ _ _ _ (by decide), up_nc _ _ _ _ (by decide), up_nc _ _ _ _ (by decide), e108 19]; exact h19
  · rw [Nat.sub_self]
    refine ostk_eq (fun j hj => ?_) hst
    rw [up_nc _ _ _ _ (by decide), up_nc _ _ _ _ (by decide), up_nc _ _ _ _ (by decide), eo 117 (by decide) (by decide) (by decide)]
end Sa6
